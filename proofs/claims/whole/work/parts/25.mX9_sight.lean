def fX9_sight (μ : dw_M) (a1 : Int32) (a2 : Int32) : Int32 × dw_M :=
  if (fX1_hasPlace μ a1) = 0 then (
   ((-1 : Int32), μ))
  else (
  dw_n2 (fX2_put μ 63 a1 a2) (fun r3 μ2 =>
   (r3, μ2)))
set_option maxHeartbeats 4000000 in
set_option maxRecDepth 100000 in
theorem kX9_sight (l : Launch) (Γ : dw_G) (hj : dw_inj Γ) (μ : dw_M) (a1 : Int32) (a2 : Int32) {r : Int32} {ν : dw_M} (h : fX9_sight μ a1 a2 = (r, ν)) : Met l yX9_sight (dw_ws yX9_sight cX9_sight 3 (some .int)) (dw_rm 2 43) (dw_P Γ ([.ref (dw_ad Γ 0), .int a1, .int a2] : List Value) μ) (dw_Qi Γ r ν) 0 0 (dw_A Γ) := by
  refine dw_met (own := RX9) rfl rfl (Nat.le_of_ble_eq_true rfl) hj ?_
  intro p e s m below meth c C0 hr hlk Z ls hl
  have hx := C0.1
  have hb := C0.2.1
  have hl : lv_has ls 3 [(0, .ref (dw_ad Γ 0)), (1, .int a1), (2, .int a2)] := hl
  suffices key : ∀ (H : Heap) (locs : List Loc), dw_Z Γ (dw_A Γ) s.heap μ H locs → W p l e (dw_rm 2 43) s m ([.ref (dw_ad Γ 0), .int a1, .int a2] : List Value).toArray below meth c H locs 0 0 (MQ below (dw_Qi Γ r ν) ([.ref (dw_ad Γ 0), .int a1, .int a2] : List Value).toArray s 0 0 (dw_A Γ)) (F0 m 0 ls []) from key _ _ Z
  clear Z
  intro H locs Z
  unfold fX9_sight at h
  refine lv_aload_n hx hb dX9_sight_0 rfl (lv_at hl 0 rfl) ?_
  refine dw_g9_0 (t := 1) C0 Z dw_kc0 tw_fX9_12 rfl dX9_sight_1 ?_
  refine dw_g6_0 (t := 2) C0 Z dw_kc1 tw_fX9_48 rfl dX9_sight_4 ?_
  refine lv_iload_n hx hb dX9_sight_7 rfl (lv_at hl 1 rfl) ?_
  refine dw_cVi C0 Z dw_hA (dw_lt dw_kc2 (by decide)) (dw_cz1 dw_kc2) rfl (As := [.int a1]) (rest := []) (kX1_hasPlace l Γ hj μ a1 rfl) (dw_gV tw_lX9_102 tw_vX1_hasPlace tw_eX1_hasPlace tw_iX1 tw_kX1_hasPlace) dw_hX1_hasPlace ⟨Nat.le_of_ble_eq_true rfl, Nat.le_of_ble_eq_true rfl⟩ ⟨Nat.zero_le _, Nat.zero_le _⟩ hl.1 (Nat.le_of_ble_eq_true rfl) rfl dX9_sight_8 (fun H locs Z => ?_)
  refine lv_if_eq (tgt := 29) hx hb dX9_sight_11 (by decide) (fun c1 => ?_) (fun c1 => ?_)
  · have h := dw_ifT c1 h
    refine lv_iconst (v := (-1 : Int32)) hx hb dX9_sight_29 (by decide) ?_
    obtain ⟨rfl, rfl⟩ := dw_t2 h
    exact dw_iret C0 Z hr hlk dX9_sight_30
  · have h := dw_ifF c1 h
    refine lv_aload_n hx hb dX9_sight_14 rfl (lv_at hl 0 rfl) ?_
    refine dw_g9_0 (t := 1) C0 Z dw_kc0 tw_fX9_12 rfl dX9_sight_15 ?_
    refine dw_g6_6 (t := 63) C0 Z dw_kc1 tw_fX9_96 rfl dX9_sight_18 ?_
    refine lv_iload_n hx hb dX9_sight_21 rfl (lv_at hl 1 rfl) ?_
    refine lv_iload_n hx hb dX9_sight_22 rfl (lv_at hl 2 rfl) ?_
    obtain ⟨r3, μ2, eμ2, h⟩ := dw_n2S h
    refine dw_cVi C0 Z dw_hA (dw_lt dw_kc63 (by decide)) (dw_cz2 dw_kc63) rfl (As := [.int a1, .int a2]) (rest := []) (kX2_put l Γ hj μ 63 dw_kc63 a1 a2 eμ2) (dw_gV tw_lX9_206 tw_vX2_put tw_eX2_put tw_iX2 tw_kX2_put) dw_hX2_put ⟨Nat.le_of_ble_eq_true rfl, Nat.le_of_ble_eq_true rfl⟩ ⟨Nat.zero_le _, Nat.zero_le _⟩ hl.1 (Nat.le_of_ble_eq_true rfl) rfl dX9_sight_23 (fun H locs Z => ?_)
    refine lv_goto (tgt := 30) hx hb dX9_sight_26 (by decide) ?_
    obtain ⟨rfl, rfl⟩ := dw_t2 h
    exact dw_iret C0 Z hr hlk dX9_sight_30

def fX9_see (μ : dw_M) : Option (Int32 × dw_M) :=
  dw_bd (fX8_putStanding μ) (fun μ2 =>
  some ((fX2_size μ2 63), μ2))
set_option maxHeartbeats 4000000 in
set_option maxRecDepth 100000 in
theorem kX9_see (l : Launch) (Γ : dw_G) (hj : dw_inj Γ) (μ : dw_M)  {r : Int32} {ν : dw_M} (h : fX9_see μ = some (r, ν)) : Met l yX9_see (dw_ws yX9_see cX9_see 1 (some .int)) (dw_rm 3 65) (dw_P Γ ([.ref (dw_ad Γ 0)] : List Value) μ) (dw_Qi Γ r ν) 0 0 (dw_A Γ) := by
  refine dw_met (own := RX9) rfl rfl (Nat.le_of_ble_eq_true rfl) hj ?_
  intro p e s m below meth c C0 hr hlk Z ls hl
  have hx := C0.1
  have hb := C0.2.1
  have hl : lv_has ls 1 [(0, .ref (dw_ad Γ 0))] := hl
  suffices key : ∀ (H : Heap) (locs : List Loc), dw_Z Γ (dw_A Γ) s.heap μ H locs → W p l e (dw_rm 3 65) s m ([.ref (dw_ad Γ 0)] : List Value).toArray below meth c H locs 0 0 (MQ below (dw_Qi Γ r ν) ([.ref (dw_ad Γ 0)] : List Value).toArray s 0 0 (dw_A Γ)) (F0 m 0 ls []) from key _ _ Z
  clear Z
  intro H locs Z
  unfold fX9_see at h
  refine lv_aload_n hx hb dX9_see_0 rfl (lv_at hl 0 rfl) ?_
  refine dw_g9_0 (t := 1) C0 Z dw_kc0 tw_fX9_12 rfl dX9_see_1 ?_
  refine dw_g6_3 (t := 53) C0 Z dw_kc1 tw_fX9_77 rfl dX9_see_4 ?_
  refine lv_aload_n hx hb dX9_see_7 rfl (lv_at hl 0 rfl) ?_
  refine dw_g9_0 (t := 1) C0 Z dw_kc0 tw_fX9_12 rfl dX9_see_8 ?_
  refine dw_g6_6 (t := 63) C0 Z dw_kc1 tw_fX9_96 rfl dX9_see_11 ?_
  obtain ⟨μ2, hc1, h⟩ := dw_bdS h
  refine dw_cVv C0 Z dw_hA (dw_lt dw_kc53 (by decide)) (dw_cz8 dw_kc53) rfl (As := [.ref (dw_ad Γ 63)]) (rest := []) (kX8_putStanding l Γ hj μ hc1) (dw_gV tw_lX9_283 tw_vX8_putStanding tw_eX8_putStanding tw_iX8 tw_kX8_putStanding) dw_hX8_putStanding ⟨Nat.le_of_ble_eq_true rfl, Nat.le_of_ble_eq_true rfl⟩ ⟨Nat.zero_le _, Nat.zero_le _⟩ hl.1 (Nat.le_of_ble_eq_true rfl) rfl dX9_see_14 (fun H locs Z => ?_)
  refine lv_aload_n hx hb dX9_see_17 rfl (lv_at hl 0 rfl) ?_
  refine dw_g9_0 (t := 1) C0 Z dw_kc0 tw_fX9_12 rfl dX9_see_18 ?_
  refine dw_g6_6 (t := 63) C0 Z dw_kc1 tw_fX9_96 rfl dX9_see_21 ?_
  refine dw_cVi C0 Z dw_hA (dw_lt dw_kc63 (by decide)) (dw_cz2 dw_kc63) rfl (As := []) (rest := []) (kX2_size l Γ hj μ2 63 dw_kc63 rfl) (dw_gV tw_lX9_269 tw_vX2_size tw_eX2_size tw_iX2 tw_kX2_size) dw_hX2_size ⟨Nat.le_of_ble_eq_true rfl, Nat.le_of_ble_eq_true rfl⟩ ⟨Nat.zero_le _, Nat.zero_le _⟩ hl.1 (Nat.le_of_ble_eq_true rfl) rfl dX9_see_24 (fun H locs Z => ?_)
  obtain ⟨rfl, rfl⟩ := dw_s2 h
  exact dw_iret C0 Z hr hlk dX9_see_27

def fX9_blockTried (μ : dw_M) (a1 : Int32) : Int32 × dw_M :=
  if a1 = (-1 : Int32) then (
   ((1 : Int32), μ))
  else (
  dw_n2 (fX2_put μ 134 a1 (1 : Int32)) (fun r3 μ2 =>
  if r3 = (1 : Int32) then (
   ((1 : Int32), μ2))
  else (
   ((0 : Int32), μ2))))
set_option maxHeartbeats 4000000 in
set_option maxRecDepth 100000 in
theorem kX9_blockTried (l : Launch) (Γ : dw_G) (hj : dw_inj Γ) (μ : dw_M) (a1 : Int32) {r : Int32} {ν : dw_M} (h : fX9_blockTried μ a1 = (r, ν)) : Met l yX9_blockTried (dw_ws yX9_blockTried cX9_blockTried 2 (some .boolean)) (dw_rm 2 43) (dw_P Γ ([.ref (dw_ad Γ 0), .int a1] : List Value) μ) (dw_Qi Γ r ν) 0 0 (dw_A Γ) := by
  refine dw_met (own := RX9) rfl rfl (Nat.le_of_ble_eq_true rfl) hj ?_
  intro p e s m below meth c C0 hr hlk Z ls hl
  have hx := C0.1
  have hb := C0.2.1
  have hl : lv_has ls 2 [(0, .ref (dw_ad Γ 0)), (1, .int a1)] := hl
  suffices key : ∀ (H : Heap) (locs : List Loc), dw_Z Γ (dw_A Γ) s.heap μ H locs → W p l e (dw_rm 2 43) s m ([.ref (dw_ad Γ 0), .int a1] : List Value).toArray below meth c H locs 0 0 (MQ below (dw_Qi Γ r ν) ([.ref (dw_ad Γ 0), .int a1] : List Value).toArray s 0 0 (dw_A Γ)) (F0 m 0 ls []) from key _ _ Z
  clear Z
  intro H locs Z
  unfold fX9_blockTried at h
  refine lv_iload_n hx hb dX9_blockTried_0 rfl (lv_at hl 1 rfl) ?_
  refine lv_iconst (v := (-1 : Int32)) hx hb dX9_blockTried_1 (by decide) ?_
  refine lv_icmp_eq (tgt := 21) hx hb dX9_blockTried_2 (by decide) (fun c1 => ?_) (fun c1 => ?_)
  · have h := dw_ifT c1 h
    refine lv_iconst (v := (1 : Int32)) hx hb dX9_blockTried_21 (by decide) ?_
    refine lv_goto (tgt := 26) hx hb dX9_blockTried_22 (by decide) ?_
    obtain ⟨rfl, rfl⟩ := dw_t2 h
    exact dw_zret C0 Z hr hlk rfl dX9_blockTried_26
  · have h := dw_ifF c1 h
    refine lv_aload_n hx hb dX9_blockTried_5 rfl (lv_at hl 0 rfl) ?_
    refine dw_g9_3 (t := 127) C0 Z dw_kc0 tw_fX9_22 rfl dX9_blockTried_6 ?_
    refine dw_g8_6 (t := 134) C0 Z dw_kc127 tw_fX9_203 rfl dX9_blockTried_9 ?_
    refine lv_iload_n hx hb dX9_blockTried_12 rfl (lv_at hl 1 rfl) ?_
    refine lv_iconst (v := (1 : Int32)) hx hb dX9_blockTried_13 (by decide) ?_
    obtain ⟨r3, μ2, eμ2, h⟩ := dw_n2S h
    refine dw_cVi C0 Z dw_hA (dw_lt dw_kc134 (by decide)) (dw_cz2 dw_kc134) rfl (As := [.int a1, .int (1 : Int32)]) (rest := []) (kX2_put l Γ hj μ 134 dw_kc134 a1 (1 : Int32) eμ2) (dw_gV tw_lX9_206 tw_vX2_put tw_eX2_put tw_iX2 tw_kX2_put) dw_hX2_put ⟨Nat.le_of_ble_eq_true rfl, Nat.le_of_ble_eq_true rfl⟩ ⟨Nat.zero_le _, Nat.zero_le _⟩ hl.1 (Nat.le_of_ble_eq_true rfl) rfl dX9_blockTried_14 (fun H locs Z => ?_)
    refine lv_iconst (v := (1 : Int32)) hx hb dX9_blockTried_17 (by decide) ?_
    refine lv_icmp_ne (tgt := 25) hx hb dX9_blockTried_18 (by decide) (fun c4 => ?_) (fun c4 => ?_)
    · have h := dw_ifF c4 h
      refine lv_iconst (v := (0 : Int32)) hx hb dX9_blockTried_25 (by decide) ?_
      obtain ⟨rfl, rfl⟩ := dw_t2 h
      exact dw_zret C0 Z hr hlk rfl dX9_blockTried_26
    · have h := dw_ifT c4 h
      refine lv_iconst (v := (1 : Int32)) hx hb dX9_blockTried_21 (by decide) ?_
      refine lv_goto (tgt := 26) hx hb dX9_blockTried_22 (by decide) ?_
      obtain ⟨rfl, rfl⟩ := dw_t2 h
      exact dw_zret C0 Z hr hlk rfl dX9_blockTried_26

def sX9_fits_35 (a1 : Int32) (x9 : Int32) (μ10 : dw_M) : Option ((Int32 × dw_M) ⊕ ((dw_M))) :=
  if a1 ≤ x9 then (
  some (.inr μ10))
  else (
  dw_bd (fX0_passHour μ10 127) (fun μ13 =>
  dw_nm (x9 + (1 : Int32)) (fun x14 =>
  some (.inl (x14, μ13)))))
def fX9_fits (μ : dw_M) (a1 : Int32) (a2 : Int32) (a3 : Int32) : Option (Int32 × dw_M) :=
  dw_bd (fX8_copyFrom μ 127 53) (fun μ2 =>
  dw_n2 (fX9_blockTried μ2 a2) (fun r4 μ3 =>
  if r4 = 0 then (
  some ((0 : Int32), μ3))
  else (
  dw_n2 (fX9_blockTried μ3 a3) (fun r7 μ6 =>
  if r7 = 0 then (
  some ((0 : Int32), μ6))
  else (
  dw_bd (dw_wh (fun v => sX9_fits_35 a1 v.1 v.2) 1000 ((0 : Int32), μ6))
    (fun μ15 => dw_bd (fX8_isStandingJustOn μ15) (fun r17 =>
  dw_gd (dw_bo r17) (
  some (r17, μ15)))))))))
set_option maxHeartbeats 4000000 in
set_option maxRecDepth 100000 in
theorem kX9_fits (l : Launch) (Γ : dw_G) (hj : dw_inj Γ) (μ : dw_M) (a1 : Int32) (a2 : Int32) (a3 : Int32) {r : Int32} {ν : dw_M} (h : fX9_fits μ a1 a2 a3 = some (r, ν)) : Met l yX9_fits (dw_ws yX9_fits cX9_fits 5 (some .boolean)) (dw_rm 4 98) (dw_P Γ ([.ref (dw_ad Γ 0), .int a1, .int a2, .int a3] : List Value) μ) (dw_Qi Γ r ν) 0 0 (dw_A Γ) := by
  refine dw_met (own := RX9) rfl rfl (Nat.le_of_ble_eq_true rfl) hj ?_
  intro p e s m below meth c C0 hr hlk Z ls hl
  have hx := C0.1
  have hb := C0.2.1
  have hl : lv_has ls 5 [(0, .ref (dw_ad Γ 0)), (1, .int a1), (2, .int a2), (3, .int a3)] := hl
  suffices key : ∀ (H : Heap) (locs : List Loc), dw_Z Γ (dw_A Γ) s.heap μ H locs → W p l e (dw_rm 4 98) s m ([.ref (dw_ad Γ 0), .int a1, .int a2, .int a3] : List Value).toArray below meth c H locs 0 0 (MQ below (dw_Qi Γ r ν) ([.ref (dw_ad Γ 0), .int a1, .int a2, .int a3] : List Value).toArray s 0 0 (dw_A Γ)) (F0 m 0 ls []) from key _ _ Z
  clear Z
  intro H locs Z
  unfold fX9_fits at h
  refine lv_aload_n hx hb dX9_fits_0 rfl (lv_at hl 0 rfl) ?_
  refine dw_g9_3 (t := 127) C0 Z dw_kc0 tw_fX9_22 rfl dX9_fits_1 ?_
  refine lv_aload_n hx hb dX9_fits_4 rfl (lv_at hl 0 rfl) ?_
  refine dw_g9_0 (t := 1) C0 Z dw_kc0 tw_fX9_12 rfl dX9_fits_5 ?_
  refine dw_g6_3 (t := 53) C0 Z dw_kc1 tw_fX9_77 rfl dX9_fits_8 ?_
  obtain ⟨μ2, hc1, h⟩ := dw_bdS h
  refine dw_cVv C0 Z dw_hA (dw_lt dw_kc127 (by decide)) (dw_cz8 dw_kc127) rfl (As := [.ref (dw_ad Γ 53)]) (rest := []) (kX8_copyFrom l Γ hj μ 127 dw_kc127 53 dw_kc53 hc1) (dw_gV tw_lX9_293 tw_vX8_copyFrom tw_eX8_copyFrom tw_iX8 tw_kX8_copyFrom) dw_hX8_copyFrom ⟨Nat.le_of_ble_eq_true rfl, Nat.le_of_ble_eq_true rfl⟩ ⟨Nat.zero_le _, Nat.zero_le _⟩ hl.1 (Nat.le_of_ble_eq_true rfl) rfl dX9_fits_11 (fun H locs Z => ?_)
  refine lv_aload_n hx hb dX9_fits_14 rfl (lv_at hl 0 rfl) ?_
  refine lv_iload_n hx hb dX9_fits_15 rfl (lv_at hl 2 rfl) ?_
  obtain ⟨r4, μ3, eμ3, h⟩ := dw_n2S h
  refine dw_cVi C0 Z dw_hA (dw_lt dw_kc0 (by decide)) (dw_cz9 dw_kc0) rfl (As := [.int a2]) (rest := []) (kX9_blockTried l Γ hj μ2 a2 eμ3) (dw_gV tw_lX9_297 tw_vX9_blockTried tw_eX9_blockTried tw_iX9 tw_kX9_blockTried) dw_hX9_blockTried ⟨Nat.le_of_ble_eq_true rfl, Nat.le_of_ble_eq_true rfl⟩ ⟨Nat.zero_le _, Nat.zero_le _⟩ hl.1 (Nat.le_of_ble_eq_true rfl) rfl dX9_fits_16 (fun H locs Z => ?_)
  refine lv_if_eq (tgt := 30) hx hb dX9_fits_19 (by decide) (fun c5 => ?_) (fun c5 => ?_)
  · have h := dw_ifT c5 h
    refine lv_iconst (v := (0 : Int32)) hx hb dX9_fits_30 (by decide) ?_
    obtain ⟨rfl, rfl⟩ := dw_s2 h
    exact dw_zret C0 Z hr hlk rfl dX9_fits_31
  · have h := dw_ifF c5 h
    refine lv_aload_n hx hb dX9_fits_22 rfl (lv_at hl 0 rfl) ?_
    refine lv_iload_n hx hb dX9_fits_23 rfl (lv_at hl 3 rfl) ?_
    obtain ⟨r7, μ6, eμ6, h⟩ := dw_n2S h
    refine dw_cVi C0 Z dw_hA (dw_lt dw_kc0 (by decide)) (dw_cz9 dw_kc0) rfl (As := [.int a3]) (rest := []) (kX9_blockTried l Γ hj μ3 a3 eμ6) (dw_gV tw_lX9_297 tw_vX9_blockTried tw_eX9_blockTried tw_iX9 tw_kX9_blockTried) dw_hX9_blockTried ⟨Nat.le_of_ble_eq_true rfl, Nat.le_of_ble_eq_true rfl⟩ ⟨Nat.zero_le _, Nat.zero_le _⟩ hl.1 (Nat.le_of_ble_eq_true rfl) rfl dX9_fits_24 (fun H locs Z => ?_)
    refine lv_if_ne (tgt := 32) hx hb dX9_fits_27 (by decide) (fun c8 => ?_) (fun c8 => ?_)
    · have h := dw_ifF c8 h
      refine lv_iconst (v := (0 : Int32)) hx hb dX9_fits_32 (by decide) ?_
      refine lv_istore (lv' := [(4, .int (0 : Int32)), (0, .ref (dw_ad Γ 0)), (1, .int a1), (2, .int a2), (3, .int a3)]) hx hb dX9_fits_33 hl (by decide) rfl (fun ls hl => ?_)
      obtain ⟨kc35, ekc35, h⟩ := dw_bdK h
      have E35 : ∀ (μ15 : dw_M) (H : Heap) (locs : List Loc) (ls : Array Slot), dw_Z Γ (dw_A Γ) s.heap μ15 H locs → lv_has ls 5 [(0, .ref (dw_ad Γ 0))] → kc35 μ15 = some (r, ν) → W p l e (dw_rm 4 98) s m ([.ref (dw_ad Γ 0), .int a1, .int a2, .int a3] : List Value).toArray below meth c H locs 0 0 (MQ below (dw_Qi Γ r ν) ([.ref (dw_ad Γ 0), .int a1, .int a2, .int a3] : List Value).toArray s 0 0 (dw_A Γ)) (F0 m 62 ls []) := by
        intro μ15 H locs ls Z hl h
        rw [ekc35] at h
        dsimp only at h
        refine lv_aload_n hx hb dX9_fits_62 rfl (lv_at hl 0 rfl) ?_
        refine dw_g9_3 (t := 127) C0 Z dw_kc0 tw_fX9_22 rfl dX9_fits_63 ?_
        refine lv_aload_n hx hb dX9_fits_66 rfl (lv_at hl 0 rfl) ?_
        refine dw_g9_0 (t := 1) C0 Z dw_kc0 tw_fX9_12 rfl dX9_fits_67 ?_
        refine dw_g6_6 (t := 63) C0 Z dw_kc1 tw_fX9_96 rfl dX9_fits_70 ?_
        obtain ⟨r17, hc16, h⟩ := dw_bdS h
        refine dw_cVi C0 Z dw_hA (dw_lt dw_kc127 (by decide)) (dw_cz8 dw_kc127) rfl (As := [.ref (dw_ad Γ 63)]) (rest := []) (kX8_isStandingJustOn l Γ hj μ15 hc16) (dw_gV tw_lX9_300 tw_vX8_isStandingJustOn tw_eX8_isStandingJustOn tw_iX8 tw_kX8_isStandingJustOn) dw_hX8_isStandingJustOn ⟨Nat.le_of_ble_eq_true rfl, Nat.le_of_ble_eq_true rfl⟩ ⟨Nat.zero_le _, Nat.zero_le _⟩ hl.1 (Nat.le_of_ble_eq_true rfl) rfl dX9_fits_73 (fun H locs Z => ?_)
        obtain ⟨g18, h⟩ := dw_gdS h
        obtain ⟨rfl, rfl⟩ := dw_s2 h
        exact dw_zret C0 Z hr hlk (dw_boN g18) dX9_fits_76
      have L35 : ∀ (n35 : Nat) (x9 : Int32) (μ10 : dw_M) (H : Heap) (locs : List Loc) (ls : Array Slot), dw_Z Γ (dw_A Γ) s.heap μ10 H locs → lv_has ls 5 [(0, .ref (dw_ad Γ 0)), (1, .int a1), (4, .int x9)] → dw_bd (dw_wh (fun v => sX9_fits_35 a1 v.1 v.2) n35 (x9, μ10)) kc35 = some (r, ν) → W p l e (dw_rm 4 98) s m ([.ref (dw_ad Γ 0), .int a1, .int a2, .int a3] : List Value).toArray below meth c H locs 0 0 (MQ below (dw_Qi Γ r ν) ([.ref (dw_ad Γ 0), .int a1, .int a2, .int a3] : List Value).toArray s 0 0 (dw_A Γ)) (F0 m 35 ls []) := by
        clear h
        intro n35
        induction n35 with
        | zero =>
          intro x9 μ10 H locs ls Z hl h
          exact (dw_wh0 h).elim
        | succ n35 ih35 =>
          intro x9 μ10 H locs ls Z hl h
          obtain ⟨q35, hs, hq35⟩ := dw_whB h
          have h : sX9_fits_35 a1 x9 μ10 = some q35 := hs
          unfold sX9_fits_35 at h
          refine lv_iload hx hb dX9_fits_35 (lv_at hl 2 rfl) ?_
          refine lv_iload_n hx hb dX9_fits_37 rfl (lv_at hl 1 rfl) ?_
          refine lv_icmp_ge (tgt := 62) hx hb dX9_fits_38 (by decide) (fun c11 => ?_) (fun c11 => ?_)
          · have h := dw_ifT c11 h
            obtain rfl := dw_s1 h
            exact E35  μ10 H locs ls Z (lv_sub hl [0] rfl) hq35
          · have h := dw_ifF c11 h
            refine lv_aload_n hx hb dX9_fits_41 rfl (lv_at hl 0 rfl) ?_
            refine dw_g9_4 (t := 135) C0 Z dw_kc0 tw_fX9_29 rfl dX9_fits_42 ?_
            refine lv_aload_n hx hb dX9_fits_45 rfl (lv_at hl 0 rfl) ?_
            refine dw_g9_0 (t := 1) C0 Z dw_kc0 tw_fX9_12 rfl dX9_fits_46 ?_
            refine lv_aload_n hx hb dX9_fits_49 rfl (lv_at hl 0 rfl) ?_
            refine dw_g9_3 (t := 127) C0 Z dw_kc0 tw_fX9_22 rfl dX9_fits_50 ?_
            obtain ⟨μ13, hc12, h⟩ := dw_bdS h
            refine dw_cVv C0 Z dw_hA (dw_lt dw_kc135 (by decide)) (dw_cz0 dw_kc135) rfl (As := [.ref (dw_ad Γ 1), .ref (dw_ad Γ 127)]) (rest := []) (kX0_passHour l Γ hj μ10 127 dw_kc127 hc12) (dw_gV tw_lX9_246 tw_vX0_passHour tw_eX0_passHour tw_iX0 tw_kX0_passHour) dw_hX0_passHour ⟨Nat.le_of_ble_eq_true rfl, Nat.le_of_ble_eq_true rfl⟩ ⟨Nat.zero_le _, Nat.zero_le _⟩ hl.1 (Nat.le_of_ble_eq_true rfl) rfl dX9_fits_53 (fun H locs Z => ?_)
            obtain ⟨x14, ex14⟩ := dw_eg (x9 + (1 : Int32))
            have h := dw_nmS ex14 h
            refine lv_iinc (v := x14) (lv' := [(4, .int x14), (0, .ref (dw_ad Γ 0)), (1, .int a1)]) hx hb dX9_fits_56 hl (k := 2) rfl (by rw [ex14]; rfl) (by decide) rfl (fun ls hl => ?_)
            refine lv_goto (tgt := 35) hx hb dX9_fits_59 (by decide) ?_
            obtain rfl := dw_s1 h
            exact ih35 x14 μ13 H locs ls Z (lv_sub hl [1, 2, 0] rfl) hq35
      exact L35 1000 (0 : Int32) μ6 H locs ls Z (lv_sub hl [1, 2, 0] rfl) h
    · have h := dw_ifT c8 h
      refine lv_iconst (v := (0 : Int32)) hx hb dX9_fits_30 (by decide) ?_
      obtain ⟨rfl, rfl⟩ := dw_s2 h
      exact dw_zret C0 Z hr hlk rfl dX9_fits_31

def sX9_pairWhere_26 (a1 : Int32) (x2 : Int32) (x6 : Int32) (x7 : Int32) (μ8 : dw_M) : Option ((Int32 × Int32 × dw_M) ⊕ ((Int32 × dw_M) ⊕ (Int32 × dw_M))) :=
  if (μ8.1 11 1) ≤ x7 then (
  some (.inr (.inl (x6, μ8))))
  else (
  dw_b2 (fX9_fits μ8 a1 x2 x7) (fun r11 μ12 =>
  if r11 = 0 then (
  dw_nm (x7 + (1 : Int32)) (fun x14 =>
  some (.inl (x6, x14, μ12))))
  else (
  if x6 = 0 then (
  some (.inr (.inr ((((100 : Int32) * (x2 + (1 : Int32))) + x7), μ12))))
  else (
  dw_nm (x6 + (-1 : Int32)) (fun x16 =>
  dw_nm (x7 + (1 : Int32)) (fun x17 =>
  some (.inl (x16, x17, μ12))))))))
def sX9_pairWhere_5 (a1 : Int32) (x1 : Int32) (x2 : Int32) (μ3 : dw_M) : Option ((Int32 × Int32 × dw_M) ⊕ ((dw_M) ⊕ (Int32 × dw_M))) :=
  if (μ3.1 11 1) ≤ x2 then (
  some (.inr (.inl μ3)))
  else (
  dw_nm (x2 + (1 : Int32)) (fun x5 =>
  dw_bd (dw_wh (fun v => sX9_pairWhere_26 a1 x2 v.1 v.2.1 v.2.2) 1000 (x1, x5, μ3))
    (Sum.elim (fun v => (fun x18 μ19 => dw_nm (x2 + (1 : Int32)) (fun x20 =>
  some (.inl (x18, x20, μ19)))) v.1 v.2) (fun r => some (.inr (.inr r))))))
def fX9_pairWhere (μ : dw_M) (a1 : Int32) (a2 : Int32) : Option (Int32 × dw_M) :=
  dw_bd (dw_wh (fun v => sX9_pairWhere_5 a1 v.1 v.2.1 v.2.2) 1000 (a2, (0 : Int32), μ))
    (Sum.elim (fun μ21 => some ((-6 : Int32), μ21)) (fun r => some r))
set_option maxHeartbeats 4000000 in
set_option maxRecDepth 100000 in
theorem kX9_pairWhere (l : Launch) (Γ : dw_G) (hj : dw_inj Γ) (μ : dw_M) (a1 : Int32) (a2 : Int32) {r : Int32} {ν : dw_M} (h : fX9_pairWhere μ a1 a2 = some (r, ν)) : Met l yX9_pairWhere (dw_ws yX9_pairWhere cX9_pairWhere 6 (some .int)) (dw_rm 5 122) (dw_P Γ ([.ref (dw_ad Γ 0), .int a1, .int a2] : List Value) μ) (dw_Qi Γ r ν) 0 0 (dw_A Γ) := by
  refine dw_met (own := RX9) rfl rfl (Nat.le_of_ble_eq_true rfl) hj ?_
  intro p e s m below meth c C0 hr hlk Z ls hl
  have hx := C0.1
  have hb := C0.2.1
  have hl : lv_has ls 6 [(0, .ref (dw_ad Γ 0)), (1, .int a1), (2, .int a2)] := hl
  suffices key : ∀ (H : Heap) (locs : List Loc), dw_Z Γ (dw_A Γ) s.heap μ H locs → W p l e (dw_rm 5 122) s m ([.ref (dw_ad Γ 0), .int a1, .int a2] : List Value).toArray below meth c H locs 0 0 (MQ below (dw_Qi Γ r ν) ([.ref (dw_ad Γ 0), .int a1, .int a2] : List Value).toArray s 0 0 (dw_A Γ)) (F0 m 0 ls []) from key _ _ Z
  clear Z
  intro H locs Z
  unfold fX9_pairWhere at h
  refine lv_iload_n hx hb dX9_pairWhere_0 rfl (lv_at hl 2 rfl) ?_
  refine lv_istore_n (lv' := [(3, .int a2), (0, .ref (dw_ad Γ 0)), (1, .int a1), (2, .int a2)]) hx hb dX9_pairWhere_1 rfl hl (by decide) rfl (fun ls hl => ?_)
  refine lv_iconst (v := (0 : Int32)) hx hb dX9_pairWhere_2 (by decide) ?_
  refine lv_istore (lv' := [(4, .int (0 : Int32)), (3, .int a2), (0, .ref (dw_ad Γ 0)), (1, .int a1), (2, .int a2)]) hx hb dX9_pairWhere_3 hl (by decide) rfl (fun ls hl => ?_)
  obtain ⟨kc5, ekc5, h⟩ := dw_bdK h
  have E5 : ∀ (μ21 : dw_M) (H : Heap) (locs : List Loc) (ls : Array Slot), dw_Z Γ (dw_A Γ) s.heap μ21 H locs → lv_has ls 6 [] → kc5 (.inl μ21) = some (r, ν) → W p l e (dw_rm 5 122) s m ([.ref (dw_ad Γ 0), .int a1, .int a2] : List Value).toArray below meth c H locs 0 0 (MQ below (dw_Qi Γ r ν) ([.ref (dw_ad Γ 0), .int a1, .int a2] : List Value).toArray s 0 0 (dw_A Γ)) (F0 m 83 ls []) := by
    intro μ21 H locs ls Z hl h
    rw [ekc5] at h
    dsimp only [Sum.elim] at h
    refine lv_bipush (v := (-6 : Int32)) hx hb dX9_pairWhere_83 (by decide) ?_
    obtain ⟨rfl, rfl⟩ := dw_s2 h
    exact dw_iret C0 Z hr hlk dX9_pairWhere_85
  have L5 : ∀ (n5 : Nat) (x1 : Int32) (x2 : Int32) (μ3 : dw_M) (H : Heap) (locs : List Loc) (ls : Array Slot), dw_Z Γ (dw_A Γ) s.heap μ3 H locs → lv_has ls 6 [(0, .ref (dw_ad Γ 0)), (1, .int a1), (3, .int x1), (4, .int x2)] → dw_bd (dw_wh (fun v => sX9_pairWhere_5 a1 v.1 v.2.1 v.2.2) n5 (x1, x2, μ3)) kc5 = some (r, ν) → W p l e (dw_rm 5 122) s m ([.ref (dw_ad Γ 0), .int a1, .int a2] : List Value).toArray below meth c H locs 0 0 (MQ below (dw_Qi Γ r ν) ([.ref (dw_ad Γ 0), .int a1, .int a2] : List Value).toArray s 0 0 (dw_A Γ)) (F0 m 5 ls []) := by
    clear h
    intro n5
    induction n5 with
    | zero =>
      intro x1 x2 μ3 H locs ls Z hl h
      exact (dw_wh0 h).elim
    | succ n5 ih5 =>
      intro x1 x2 μ3 H locs ls Z hl h
      obtain ⟨q5, hs, hq5⟩ := dw_whB h
      have h : sX9_pairWhere_5 a1 x1 x2 μ3 = some q5 := hs
      unfold sX9_pairWhere_5 at h
      refine lv_iload hx hb dX9_pairWhere_5 (lv_at hl 3 rfl) ?_
      refine lv_aload_n hx hb dX9_pairWhere_7 rfl (lv_at hl 0 rfl) ?_
      refine dw_g9_0 (t := 1) C0 Z dw_kc0 tw_fX9_12 rfl dX9_pairWhere_8 ?_
      refine dw_g6_2 (t := 11) C0 Z dw_kc1 tw_fX9_67 rfl dX9_pairWhere_11 ?_
      refine dw_g4_1 C0 Z dw_kc11 tw_fX9_71 dX9_pairWhere_14 ?_
      refine lv_icmp_ge (tgt := 83) hx hb dX9_pairWhere_17 (by decide) (fun c4 => ?_) (fun c4 => ?_)
      · have h := dw_ifT c4 h
        obtain rfl := dw_s1 h
        exact E5  μ3 H locs ls Z (lv_sub hl [] rfl) hq5
      · have h := dw_ifF c4 h
        refine lv_iload hx hb dX9_pairWhere_20 (lv_at hl 3 rfl) ?_
        refine lv_iconst (v := (1 : Int32)) hx hb dX9_pairWhere_22 (by decide) ?_
        refine lv_iadd hx hb dX9_pairWhere_23 ?_
        refine lv_topi (fun x5 ex5 => ?_)
        have h := dw_nmS ex5 h
        refine lv_istore (lv' := [(5, .int x5), (0, .ref (dw_ad Γ 0)), (1, .int a1), (3, .int x1), (4, .int x2)]) hx hb dX9_pairWhere_24 hl (by decide) rfl (fun ls hl => ?_)
        obtain ⟨kc26, ekc26, h⟩ := dw_bdK h
        have E26 : ∀ (x18 : Int32) (μ19 : dw_M) (H : Heap) (locs : List Loc) (ls : Array Slot), dw_Z Γ (dw_A Γ) s.heap μ19 H locs → lv_has ls 6 [(0, .ref (dw_ad Γ 0)), (1, .int a1), (3, .int x18), (4, .int x2)] → kc26 (.inl (x18, μ19)) = some q5 → W p l e (dw_rm 5 122) s m ([.ref (dw_ad Γ 0), .int a1, .int a2] : List Value).toArray below meth c H locs 0 0 (MQ below (dw_Qi Γ r ν) ([.ref (dw_ad Γ 0), .int a1, .int a2] : List Value).toArray s 0 0 (dw_A Γ)) (F0 m 77 ls []) := by
          intro x18 μ19 H locs ls Z hl h
          rw [ekc26] at h
          dsimp only [Sum.elim] at h
          obtain ⟨x20, ex20⟩ := dw_eg (x2 + (1 : Int32))
          have h := dw_nmS ex20 h
          refine lv_iinc (v := x20) (lv' := [(4, .int x20), (0, .ref (dw_ad Γ 0)), (1, .int a1), (3, .int x18)]) hx hb dX9_pairWhere_77 hl (k := 3) rfl (by rw [ex20]; rfl) (by decide) rfl (fun ls hl => ?_)
          refine lv_goto (tgt := 5) hx hb dX9_pairWhere_80 (by decide) ?_
          obtain rfl := dw_s1 h
          exact ih5 x18 x20 μ19 H locs ls Z (lv_sub hl [1, 2, 3, 0] rfl) hq5
        have L26 : ∀ (n26 : Nat) (x6 : Int32) (x7 : Int32) (μ8 : dw_M) (H : Heap) (locs : List Loc) (ls : Array Slot), dw_Z Γ (dw_A Γ) s.heap μ8 H locs → lv_has ls 6 [(0, .ref (dw_ad Γ 0)), (1, .int a1), (3, .int x6), (4, .int x2), (5, .int x7)] → dw_bd (dw_wh (fun v => sX9_pairWhere_26 a1 x2 v.1 v.2.1 v.2.2) n26 (x6, x7, μ8)) kc26 = some q5 → W p l e (dw_rm 5 122) s m ([.ref (dw_ad Γ 0), .int a1, .int a2] : List Value).toArray below meth c H locs 0 0 (MQ below (dw_Qi Γ r ν) ([.ref (dw_ad Γ 0), .int a1, .int a2] : List Value).toArray s 0 0 (dw_A Γ)) (F0 m 26 ls []) := by
          clear h
          intro n26
          induction n26 with
          | zero =>
            intro x6 x7 μ8 H locs ls Z hl h
            exact (dw_wh0 h).elim
          | succ n26 ih26 =>
            intro x6 x7 μ8 H locs ls Z hl h
            obtain ⟨q26, hs, hq26⟩ := dw_whB h
            have h : sX9_pairWhere_26 a1 x2 x6 x7 μ8 = some q26 := hs
            unfold sX9_pairWhere_26 at h
            refine lv_iload hx hb dX9_pairWhere_26 (lv_at hl 4 rfl) ?_
            refine lv_aload_n hx hb dX9_pairWhere_28 rfl (lv_at hl 0 rfl) ?_
            refine dw_g9_0 (t := 1) C0 Z dw_kc0 tw_fX9_12 rfl dX9_pairWhere_29 ?_
            refine dw_g6_2 (t := 11) C0 Z dw_kc1 tw_fX9_67 rfl dX9_pairWhere_32 ?_
            refine dw_g4_1 C0 Z dw_kc11 tw_fX9_71 dX9_pairWhere_35 ?_
            refine lv_icmp_ge (tgt := 77) hx hb dX9_pairWhere_38 (by decide) (fun c9 => ?_) (fun c9 => ?_)
            · have h := dw_ifT c9 h
              obtain rfl := dw_s1 h
              exact E26 x6 μ8 H locs ls Z (lv_sub hl [0, 1, 2, 3] rfl) hq26
            · have h := dw_ifF c9 h
              refine lv_aload_n hx hb dX9_pairWhere_41 rfl (lv_at hl 0 rfl) ?_
              refine lv_iload_n hx hb dX9_pairWhere_42 rfl (lv_at hl 1 rfl) ?_
              refine lv_iload hx hb dX9_pairWhere_43 (lv_at hl 3 rfl) ?_
              refine lv_iload hx hb dX9_pairWhere_45 (lv_at hl 4 rfl) ?_
              obtain ⟨r11, μ12, hc10, h⟩ := dw_b2S h
              refine dw_cVi C0 Z dw_hA (dw_lt dw_kc0 (by decide)) (dw_cz9 dw_kc0) rfl (As := [.int a1, .int x2, .int x7]) (rest := []) (kX9_fits l Γ hj μ8 a1 x2 x7 hc10) (dw_gV tw_lX9_287 tw_vX9_fits tw_eX9_fits tw_iX9 tw_kX9_fits) dw_hX9_fits ⟨Nat.le_of_ble_eq_true rfl, Nat.le_of_ble_eq_true rfl⟩ ⟨Nat.zero_le _, Nat.zero_le _⟩ hl.1 (Nat.le_of_ble_eq_true rfl) rfl dX9_pairWhere_47 (fun H locs Z => ?_)
              refine lv_if_eq (tgt := 71) hx hb dX9_pairWhere_50 (by decide) (fun c13 => ?_) (fun c13 => ?_)
              · have h := dw_ifT c13 h
                obtain ⟨x14, ex14⟩ := dw_eg (x7 + (1 : Int32))
                have h := dw_nmS ex14 h
                refine lv_iinc (v := x14) (lv' := [(5, .int x14), (0, .ref (dw_ad Γ 0)), (1, .int a1), (3, .int x6), (4, .int x2)]) hx hb dX9_pairWhere_71 hl (k := 4) rfl (by rw [ex14]; rfl) (by decide) rfl (fun ls hl => ?_)
                refine lv_goto (tgt := 26) hx hb dX9_pairWhere_74 (by decide) ?_
                obtain rfl := dw_s1 h
                exact ih26 x6 x14 μ12 H locs ls Z (lv_sub hl [1, 2, 3, 4, 0] rfl) hq26
              · have h := dw_ifF c13 h
                refine lv_iload_n hx hb dX9_pairWhere_53 rfl (lv_at hl 2 rfl) ?_
                refine lv_if_ne (tgt := 68) hx hb dX9_pairWhere_54 (by decide) (fun c15 => ?_) (fun c15 => ?_)
                · have h := dw_ifF c15 h
                  obtain ⟨x16, ex16⟩ := dw_eg (x6 + (-1 : Int32))
                  have h := dw_nmS ex16 h
                  refine lv_iinc (v := x16) (lv' := [(3, .int x16), (0, .ref (dw_ad Γ 0)), (1, .int a1), (4, .int x2), (5, .int x7)]) hx hb dX9_pairWhere_68 hl (k := 2) rfl (by rw [ex16]; rfl) (by decide) rfl (fun ls hl => ?_)
                  obtain ⟨x17, ex17⟩ := dw_eg (x7 + (1 : Int32))
                  have h := dw_nmS ex17 h
                  refine lv_iinc (v := x17) (lv' := [(5, .int x17), (3, .int x16), (0, .ref (dw_ad Γ 0)), (1, .int a1), (4, .int x2)]) hx hb dX9_pairWhere_71 hl (k := 4) rfl (by rw [ex17]; rfl) (by decide) rfl (fun ls hl => ?_)
                  refine lv_goto (tgt := 26) hx hb dX9_pairWhere_74 (by decide) ?_
                  obtain rfl := dw_s1 h
                  exact ih26 x16 x17 μ12 H locs ls Z (lv_sub hl [2, 3, 1, 4, 0] rfl) hq26
                · have h := dw_ifT c15 h
                  refine lv_bipush (v := (100 : Int32)) hx hb dX9_pairWhere_57 (by decide) ?_
                  refine lv_iload hx hb dX9_pairWhere_59 (lv_at hl 3 rfl) ?_
                  refine lv_iconst (v := (1 : Int32)) hx hb dX9_pairWhere_61 (by decide) ?_
                  refine lv_iadd hx hb dX9_pairWhere_62 ?_
                  refine lv_imul hx hb dX9_pairWhere_63 ?_
                  refine lv_iload hx hb dX9_pairWhere_64 (lv_at hl 4 rfl) ?_
                  refine lv_iadd hx hb dX9_pairWhere_66 ?_
                  obtain rfl := dw_s1 h
                  have h := hq26
                  dsimp only at h
                  rw [ekc26] at h
                  dsimp only [Sum.elim] at h
                  obtain rfl := dw_s1 h
                  have h := hq5
                  dsimp only at h
                  rw [ekc5] at h
                  dsimp only [Sum.elim] at h
                  obtain ⟨rfl, rfl⟩ := dw_s2 h
                  exact dw_iret C0 Z hr hlk dX9_pairWhere_67
        exact L26 1000 x1 x5 μ3 H locs ls Z (lv_sub hl [1, 2, 3, 4, 0] rfl) h
  exact L5 1000 a2 (0 : Int32) μ H locs ls Z (lv_sub hl [2, 3, 1, 0] rfl) h

def sX9_where_56 (a1 : Int32) (x9 : Int32) (x10 : Int32) (μ11 : dw_M) : Option ((Int32 × Int32 × dw_M) ⊕ ((Int32 × dw_M) ⊕ (Int32 × dw_M))) :=
  if (μ11.1 11 1) ≤ x10 then (
  some (.inr (.inl (x9, μ11))))
  else (
  dw_b2 (fX9_fits μ11 a1 x10 (-1 : Int32)) (fun r14 μ15 =>
  if r14 = 0 then (
  dw_nm (x10 + (1 : Int32)) (fun x17 =>
  some (.inl (x9, x17, μ15))))
  else (
  if x9 = 0 then (
  some (.inr (.inr (x10, μ15))))
  else (
  dw_nm (x9 + (-1 : Int32)) (fun x19 =>
  dw_nm (x10 + (1 : Int32)) (fun x20 =>
  some (.inl (x19, x20, μ15))))))))
def fX9_where (μ : dw_M) (a1 : Int32) (a2 : Int32) : Option (Int32 × dw_M) :=
  if (fX9_isWithin a1 (1 : Int32) (20 : Int32)) = 0 then (
  some ((-1 : Int32), μ))
  else (
  if 0 ≤ a2 then (
  dw_bd (fX0_plan μ) (fun μ4 =>
  dw_b2 (fX9_fits μ4 a1 (-1 : Int32) (-1 : Int32)) (fun r6 μ7 =>
  dw_jm (fun (x8 : Int32) =>
  dw_bd (dw_wh (fun v => sX9_where_56 a1 v.1 v.2.1 v.2.2) 1000 (x8, (0 : Int32), μ7))
    (Sum.elim (fun v => (fun x21 μ22 => dw_b2 (fX9_pairWhere μ22 a1 x21) (fun r24 μ25 =>
  some (r24, μ25))) v.1 v.2) (fun r => some r))) (fun k53 =>
  if r6 = 0 then (
  k53 a2)
  else (
  if a2 = 0 then (
  some ((9999 : Int32), μ7))
  else (
  dw_nm (a2 + (-1 : Int32)) (fun x28 =>
  k53 x28)))))))
  else (
  some ((-1 : Int32), μ)))
set_option maxHeartbeats 4000000 in
set_option maxRecDepth 100000 in
theorem kX9_where (l : Launch) (Γ : dw_G) (hj : dw_inj Γ) (μ : dw_M) (a1 : Int32) (a2 : Int32) {r : Int32} {ν : dw_M} (h : fX9_where μ a1 a2 = some (r, ν)) : Met l yX9_where (dw_ws yX9_where cX9_where 5 (some .int)) (dw_rm 6 147) (dw_P Γ ([.ref (dw_ad Γ 0), .int a1, .int a2] : List Value) μ) (dw_Qi Γ r ν) 0 0 (dw_A Γ) := by
  refine dw_met (own := RX9) rfl rfl (Nat.le_of_ble_eq_true rfl) hj ?_
  intro p e s m below meth c C0 hr hlk Z ls hl
  have hx := C0.1
  have hb := C0.2.1
  have hl : lv_has ls 5 [(0, .ref (dw_ad Γ 0)), (1, .int a1), (2, .int a2)] := hl
  suffices key : ∀ (H : Heap) (locs : List Loc), dw_Z Γ (dw_A Γ) s.heap μ H locs → W p l e (dw_rm 6 147) s m ([.ref (dw_ad Γ 0), .int a1, .int a2] : List Value).toArray below meth c H locs 0 0 (MQ below (dw_Qi Γ r ν) ([.ref (dw_ad Γ 0), .int a1, .int a2] : List Value).toArray s 0 0 (dw_A Γ)) (F0 m 0 ls []) from key _ _ Z
  clear Z
  intro H locs Z
  unfold fX9_where at h
  refine lv_iload_n hx hb dX9_where_0 rfl (lv_at hl 1 rfl) ?_
  refine lv_iconst (v := (1 : Int32)) hx hb dX9_where_1 (by decide) ?_
  refine lv_bipush (v := (20 : Int32)) hx hb dX9_where_2 (by decide) ?_
  refine dw_cSi C0 Z dw_hA (As := [.int a1, .int (1 : Int32), .int (20 : Int32)]) (rest := []) (kX9_isWithin l Γ hj μ a1 (1 : Int32) (20 : Int32) rfl) (dw_gS tw_lX9_44 tw_sX9_isWithin tw_iX9 tw_kX9_isWithin) dw_hX9_isWithin ⟨Nat.le_of_ble_eq_true rfl, Nat.le_of_ble_eq_true rfl⟩ ⟨Nat.zero_le _, Nat.zero_le _⟩ hl.1 (Nat.le_of_ble_eq_true rfl) rfl dX9_where_4 (fun H locs Z => ?_)
  refine lv_if_eq (tgt := 14) hx hb dX9_where_7 (by decide) (fun c1 => ?_) (fun c1 => ?_)
  · have h := dw_ifT c1 h
    refine lv_iconst (v := (-1 : Int32)) hx hb dX9_where_14 (by decide) ?_
    obtain ⟨rfl, rfl⟩ := dw_s2 h
    exact dw_iret C0 Z hr hlk dX9_where_15
  · have h := dw_ifF c1 h
    refine lv_iload_n hx hb dX9_where_10 rfl (lv_at hl 2 rfl) ?_
    refine lv_if_ge (tgt := 16) hx hb dX9_where_11 (by decide) (fun c2 => ?_) (fun c2 => ?_)
    · have h := dw_ifT c2 h
      refine lv_aload_n hx hb dX9_where_16 rfl (lv_at hl 0 rfl) ?_
      refine dw_g9_4 (t := 135) C0 Z dw_kc0 tw_fX9_29 rfl dX9_where_17 ?_
      refine lv_aload_n hx hb dX9_where_20 rfl (lv_at hl 0 rfl) ?_
      refine dw_g9_0 (t := 1) C0 Z dw_kc0 tw_fX9_12 rfl dX9_where_21 ?_
      refine dw_g6_2 (t := 11) C0 Z dw_kc1 tw_fX9_67 rfl dX9_where_24 ?_
      obtain ⟨μ4, hc3, h⟩ := dw_bdS h
      refine dw_cVv C0 Z dw_hA (dw_lt dw_kc135 (by decide)) (dw_cz0 dw_kc135) rfl (As := [.ref (dw_ad Γ 11)]) (rest := []) (kX0_plan l Γ hj μ hc3) (dw_gV tw_lX9_242 tw_vX0_plan tw_eX0_plan tw_iX0 tw_kX0_plan) dw_hX0_plan ⟨Nat.le_of_ble_eq_true rfl, Nat.le_of_ble_eq_true rfl⟩ ⟨Nat.zero_le _, Nat.zero_le _⟩ hl.1 (Nat.le_of_ble_eq_true rfl) rfl dX9_where_27 (fun H locs Z => ?_)
      refine lv_iload_n hx hb dX9_where_30 rfl (lv_at hl 2 rfl) ?_
      refine lv_istore_n (lv' := [(3, .int a2), (0, .ref (dw_ad Γ 0)), (1, .int a1), (2, .int a2)]) hx hb dX9_where_31 rfl hl (by decide) rfl (fun ls hl => ?_)
      refine lv_aload_n hx hb dX9_where_32 rfl (lv_at hl 1 rfl) ?_
      refine lv_iload_n hx hb dX9_where_33 rfl (lv_at hl 2 rfl) ?_
      refine lv_iconst (v := (-1 : Int32)) hx hb dX9_where_34 (by decide) ?_
      refine lv_iconst (v := (-1 : Int32)) hx hb dX9_where_35 (by decide) ?_
      obtain ⟨r6, μ7, hc5, h⟩ := dw_b2S h
      refine dw_cVi C0 Z dw_hA (dw_lt dw_kc0 (by decide)) (dw_cz9 dw_kc0) rfl (As := [.int a1, .int (-1 : Int32), .int (-1 : Int32)]) (rest := []) (kX9_fits l Γ hj μ4 a1 (-1 : Int32) (-1 : Int32) hc5) (dw_gV tw_lX9_287 tw_vX9_fits tw_eX9_fits tw_iX9 tw_kX9_fits) dw_hX9_fits ⟨Nat.le_of_ble_eq_true rfl, Nat.le_of_ble_eq_true rfl⟩ ⟨Nat.zero_le _, Nat.zero_le _⟩ hl.1 (Nat.le_of_ble_eq_true rfl) rfl dX9_where_36 (fun H locs Z => ?_)
      obtain ⟨k53, ek53, h⟩ := dw_jnS h
      have J53 : ∀ (x8 : Int32) (H : Heap) (locs : List Loc) (ls : Array Slot), dw_Z Γ (dw_A Γ) s.heap μ7 H locs → lv_has ls 5 [(0, .ref (dw_ad Γ 0)), (1, .int a1), (3, .int x8)] → k53 x8 = some (r, ν) → W p l e (dw_rm 6 147) s m ([.ref (dw_ad Γ 0), .int a1, .int a2] : List Value).toArray below meth c H locs 0 0 (MQ below (dw_Qi Γ r ν) ([.ref (dw_ad Γ 0), .int a1, .int a2] : List Value).toArray s 0 0 (dw_A Γ)) (F0 m 53 ls []) := by
        clear h
        intro x8 H locs ls Z hl h
        rw [ek53] at h
        dsimp only at h
        refine lv_iconst (v := (0 : Int32)) hx hb dX9_where_53 (by decide) ?_
        refine lv_istore (lv' := [(4, .int (0 : Int32)), (0, .ref (dw_ad Γ 0)), (1, .int a1), (3, .int x8)]) hx hb dX9_where_54 hl (by decide) rfl (fun ls hl => ?_)
        obtain ⟨kc56, ekc56, h⟩ := dw_bdK h
        have E56 : ∀ (x21 : Int32) (μ22 : dw_M) (H : Heap) (locs : List Loc) (ls : Array Slot), dw_Z Γ (dw_A Γ) s.heap μ22 H locs → lv_has ls 5 [(0, .ref (dw_ad Γ 0)), (1, .int a1), (3, .int x21)] → kc56 (.inl (x21, μ22)) = some (r, ν) → W p l e (dw_rm 6 147) s m ([.ref (dw_ad Γ 0), .int a1, .int a2] : List Value).toArray below meth c H locs 0 0 (MQ below (dw_Qi Γ r ν) ([.ref (dw_ad Γ 0), .int a1, .int a2] : List Value).toArray s 0 0 (dw_A Γ)) (F0 m 98 ls []) := by
          intro x21 μ22 H locs ls Z hl h
          rw [ekc56] at h
          dsimp only [Sum.elim] at h
          refine lv_aload_n hx hb dX9_where_98 rfl (lv_at hl 0 rfl) ?_
          refine lv_iload_n hx hb dX9_where_99 rfl (lv_at hl 1 rfl) ?_
          refine lv_iload_n hx hb dX9_where_100 rfl (lv_at hl 2 rfl) ?_
          obtain ⟨r24, μ25, hc23, h⟩ := dw_b2S h
          refine dw_cVi C0 Z dw_hA (dw_lt dw_kc0 (by decide)) (dw_cz9 dw_kc0) rfl (As := [.int a1, .int x21]) (rest := []) (kX9_pairWhere l Γ hj μ22 a1 x21 hc23) (dw_gV tw_lX9_290 tw_vX9_pairWhere tw_eX9_pairWhere tw_iX9 tw_kX9_pairWhere) dw_hX9_pairWhere ⟨Nat.le_of_ble_eq_true rfl, Nat.le_of_ble_eq_true rfl⟩ ⟨Nat.zero_le _, Nat.zero_le _⟩ hl.1 (Nat.le_of_ble_eq_true rfl) rfl dX9_where_101 (fun H locs Z => ?_)
          obtain ⟨rfl, rfl⟩ := dw_s2 h
          exact dw_iret C0 Z hr hlk dX9_where_104
        have L56 : ∀ (n56 : Nat) (x9 : Int32) (x10 : Int32) (μ11 : dw_M) (H : Heap) (locs : List Loc) (ls : Array Slot), dw_Z Γ (dw_A Γ) s.heap μ11 H locs → lv_has ls 5 [(0, .ref (dw_ad Γ 0)), (1, .int a1), (3, .int x9), (4, .int x10)] → dw_bd (dw_wh (fun v => sX9_where_56 a1 v.1 v.2.1 v.2.2) n56 (x9, x10, μ11)) kc56 = some (r, ν) → W p l e (dw_rm 6 147) s m ([.ref (dw_ad Γ 0), .int a1, .int a2] : List Value).toArray below meth c H locs 0 0 (MQ below (dw_Qi Γ r ν) ([.ref (dw_ad Γ 0), .int a1, .int a2] : List Value).toArray s 0 0 (dw_A Γ)) (F0 m 56 ls []) := by
          clear h
          intro n56
          induction n56 with
          | zero =>
            intro x9 x10 μ11 H locs ls Z hl h
            exact (dw_wh0 h).elim
          | succ n56 ih56 =>
            intro x9 x10 μ11 H locs ls Z hl h
            obtain ⟨q56, hs, hq56⟩ := dw_whB h
            have h : sX9_where_56 a1 x9 x10 μ11 = some q56 := hs
            unfold sX9_where_56 at h
            refine lv_iload hx hb dX9_where_56 (lv_at hl 3 rfl) ?_
            refine lv_aload_n hx hb dX9_where_58 rfl (lv_at hl 0 rfl) ?_
            refine dw_g9_0 (t := 1) C0 Z dw_kc0 tw_fX9_12 rfl dX9_where_59 ?_
            refine dw_g6_2 (t := 11) C0 Z dw_kc1 tw_fX9_67 rfl dX9_where_62 ?_
            refine dw_g4_1 C0 Z dw_kc11 tw_fX9_71 dX9_where_65 ?_
            refine lv_icmp_ge (tgt := 98) hx hb dX9_where_68 (by decide) (fun c12 => ?_) (fun c12 => ?_)
            · have h := dw_ifT c12 h
              obtain rfl := dw_s1 h
              exact E56 x9 μ11 H locs ls Z (lv_sub hl [0, 1, 2] rfl) hq56
            · have h := dw_ifF c12 h
              refine lv_aload_n hx hb dX9_where_71 rfl (lv_at hl 0 rfl) ?_
              refine lv_iload_n hx hb dX9_where_72 rfl (lv_at hl 1 rfl) ?_
              refine lv_iload hx hb dX9_where_73 (lv_at hl 3 rfl) ?_
              refine lv_iconst (v := (-1 : Int32)) hx hb dX9_where_75 (by decide) ?_
              obtain ⟨r14, μ15, hc13, h⟩ := dw_b2S h
              refine dw_cVi C0 Z dw_hA (dw_lt dw_kc0 (by decide)) (dw_cz9 dw_kc0) rfl (As := [.int a1, .int x10, .int (-1 : Int32)]) (rest := []) (kX9_fits l Γ hj μ11 a1 x10 (-1 : Int32) hc13) (dw_gV tw_lX9_287 tw_vX9_fits tw_eX9_fits tw_iX9 tw_kX9_fits) dw_hX9_fits ⟨Nat.le_of_ble_eq_true rfl, Nat.le_of_ble_eq_true rfl⟩ ⟨Nat.zero_le _, Nat.zero_le _⟩ hl.1 (Nat.le_of_ble_eq_true rfl) rfl dX9_where_76 (fun H locs Z => ?_)
              refine lv_if_eq (tgt := 92) hx hb dX9_where_79 (by decide) (fun c16 => ?_) (fun c16 => ?_)
              · have h := dw_ifT c16 h
                obtain ⟨x17, ex17⟩ := dw_eg (x10 + (1 : Int32))
                have h := dw_nmS ex17 h
                refine lv_iinc (v := x17) (lv' := [(4, .int x17), (0, .ref (dw_ad Γ 0)), (1, .int a1), (3, .int x9)]) hx hb dX9_where_92 hl (k := 3) rfl (by rw [ex17]; rfl) (by decide) rfl (fun ls hl => ?_)
                refine lv_goto (tgt := 56) hx hb dX9_where_95 (by decide) ?_
                obtain rfl := dw_s1 h
                exact ih56 x9 x17 μ15 H locs ls Z (lv_sub hl [1, 2, 3, 0] rfl) hq56
              · have h := dw_ifF c16 h
                refine lv_iload_n hx hb dX9_where_82 rfl (lv_at hl 2 rfl) ?_
                refine lv_if_ne (tgt := 89) hx hb dX9_where_83 (by decide) (fun c18 => ?_) (fun c18 => ?_)
                · have h := dw_ifF c18 h
                  obtain ⟨x19, ex19⟩ := dw_eg (x9 + (-1 : Int32))
                  have h := dw_nmS ex19 h
                  refine lv_iinc (v := x19) (lv' := [(3, .int x19), (0, .ref (dw_ad Γ 0)), (1, .int a1), (4, .int x10)]) hx hb dX9_where_89 hl (k := 2) rfl (by rw [ex19]; rfl) (by decide) rfl (fun ls hl => ?_)
                  obtain ⟨x20, ex20⟩ := dw_eg (x10 + (1 : Int32))
                  have h := dw_nmS ex20 h
                  refine lv_iinc (v := x20) (lv' := [(4, .int x20), (3, .int x19), (0, .ref (dw_ad Γ 0)), (1, .int a1)]) hx hb dX9_where_92 hl (k := 3) rfl (by rw [ex20]; rfl) (by decide) rfl (fun ls hl => ?_)
                  refine lv_goto (tgt := 56) hx hb dX9_where_95 (by decide) ?_
                  obtain rfl := dw_s1 h
                  exact ih56 x19 x20 μ15 H locs ls Z (lv_sub hl [2, 3, 1, 0] rfl) hq56
                · have h := dw_ifT c18 h
                  refine lv_iload hx hb dX9_where_86 (lv_at hl 3 rfl) ?_
                  obtain rfl := dw_s1 h
                  have h := hq56
                  dsimp only at h
                  rw [ekc56] at h
                  dsimp only [Sum.elim] at h
                  obtain ⟨rfl, rfl⟩ := dw_s2 h
                  exact dw_iret C0 Z hr hlk dX9_where_88
        exact L56 1000 x8 (0 : Int32) μ7 H locs ls Z (lv_sub hl [1, 2, 3, 0] rfl) h
      refine lv_if_eq (tgt := 53) hx hb dX9_where_39 (by decide) (fun c26 => ?_) (fun c26 => ?_)
      · have h := dw_ifT c26 h
        exact J53 a2 H locs ls Z (lv_sub hl [1, 2, 0] rfl) h
      · have h := dw_ifF c26 h
        refine lv_iload_n hx hb dX9_where_42 rfl (lv_at hl 0 rfl) ?_
        refine lv_if_ne (tgt := 50) hx hb dX9_where_43 (by decide) (fun c27 => ?_) (fun c27 => ?_)
        · have h := dw_ifF c27 h
          obtain ⟨x28, ex28⟩ := dw_eg (a2 + (-1 : Int32))
          have h := dw_nmS ex28 h
          refine lv_iinc (v := x28) (lv' := [(3, .int x28), (0, .ref (dw_ad Γ 0)), (1, .int a1), (2, .int a2)]) hx hb dX9_where_50 hl (k := 0) rfl (by rw [ex28]; rfl) (by decide) rfl (fun ls hl => ?_)
          exact J53 x28 H locs ls Z (lv_sub hl [1, 2, 0] rfl) h
        · have h := dw_ifT c27 h
          refine lv_sipush (v := (9999 : Int32)) hx hb dX9_where_46 (by decide) ?_
          obtain ⟨rfl, rfl⟩ := dw_s2 h
          exact dw_iret C0 Z hr hlk dX9_where_49
    · have h := dw_ifF c2 h
      refine lv_iconst (v := (-1 : Int32)) hx hb dX9_where_14 (by decide) ?_
      obtain ⟨rfl, rfl⟩ := dw_s2 h
      exact dw_iret C0 Z hr hlk dX9_where_15

def fX9_keep (μ : dw_M) : Option (Int32 × dw_M) :=
  dw_bd (fX6_copyFrom μ 64 1) (fun μ2 =>
  dw_nm (dw_st μ2 0 2 (1 : Int32)) (fun μ3 =>
  some ((1 : Int32), μ3)))
set_option maxHeartbeats 4000000 in
set_option maxRecDepth 100000 in
theorem kX9_keep (l : Launch) (Γ : dw_G) (hj : dw_inj Γ) (μ : dw_M)  {r : Int32} {ν : dw_M} (h : fX9_keep μ = some (r, ν)) : Met l yX9_keep (dw_ws yX9_keep cX9_keep 1 (some .int)) (dw_rm 5 110) (dw_P Γ ([.ref (dw_ad Γ 0)] : List Value) μ) (dw_Qi Γ r ν) 0 0 (dw_A Γ) := by
  refine dw_met (own := RX9) rfl rfl (Nat.le_of_ble_eq_true rfl) hj ?_
  intro p e s m below meth c C0 hr hlk Z ls hl
  have hx := C0.1
  have hb := C0.2.1
  have hl : lv_has ls 1 [(0, .ref (dw_ad Γ 0))] := hl
  suffices key : ∀ (H : Heap) (locs : List Loc), dw_Z Γ (dw_A Γ) s.heap μ H locs → W p l e (dw_rm 5 110) s m ([.ref (dw_ad Γ 0)] : List Value).toArray below meth c H locs 0 0 (MQ below (dw_Qi Γ r ν) ([.ref (dw_ad Γ 0)] : List Value).toArray s 0 0 (dw_A Γ)) (F0 m 0 ls []) from key _ _ Z
  clear Z
  intro H locs Z
  unfold fX9_keep at h
  refine lv_aload_n hx hb dX9_keep_0 rfl (lv_at hl 0 rfl) ?_
  refine dw_g9_1 (t := 64) C0 Z dw_kc0 tw_fX9_16 rfl dX9_keep_1 ?_
  refine lv_aload_n hx hb dX9_keep_4 rfl (lv_at hl 0 rfl) ?_
  refine dw_g9_0 (t := 1) C0 Z dw_kc0 tw_fX9_12 rfl dX9_keep_5 ?_
  obtain ⟨μ2, hc1, h⟩ := dw_bdS h
  refine dw_cVv C0 Z dw_hA (dw_lt dw_kc64 (by decide)) (dw_cz6 dw_kc64) rfl (As := [.ref (dw_ad Γ 1)]) (rest := []) (kX6_copyFrom l Γ hj μ 64 dw_kc64 1 dw_kc1 hc1) (dw_gV tw_lX9_304 tw_vX6_copyFrom tw_eX6_copyFrom tw_iX6 tw_kX6_copyFrom) dw_hX6_copyFrom ⟨Nat.le_of_ble_eq_true rfl, Nat.le_of_ble_eq_true rfl⟩ ⟨Nat.zero_le _, Nat.zero_le _⟩ hl.1 (Nat.le_of_ble_eq_true rfl) rfl dX9_keep_8 (fun H locs Z => ?_)
  refine lv_aload_n hx hb dX9_keep_11 rfl (lv_at hl 0 rfl) ?_
  refine lv_iconst (v := (1 : Int32)) hx hb dX9_keep_12 (by decide) ?_
  refine dw_p9_2 C0 Z dw_hA dw_kc0 tw_fX9_40 (Or.inr rfl) dX9_keep_13 (fun μ3 eμ3 H locs Z => ?_)
  have h := dw_nmS eμ3 h
  refine lv_iconst (v := (1 : Int32)) hx hb dX9_keep_16 (by decide) ?_
  obtain ⟨rfl, rfl⟩ := dw_s2 h
  exact dw_iret C0 Z hr hlk dX9_keep_17

def fX9_back (μ : dw_M) : Option (Int32 × dw_M) :=
  if (μ.1 0 2) = 0 then (
  some ((-6 : Int32), μ))
  else (
  dw_bd (fX6_copyFrom μ 1 64) (fun μ3 =>
  some ((1 : Int32), μ3)))
set_option maxHeartbeats 4000000 in
set_option maxRecDepth 100000 in
theorem kX9_back (l : Launch) (Γ : dw_G) (hj : dw_inj Γ) (μ : dw_M)  {r : Int32} {ν : dw_M} (h : fX9_back μ = some (r, ν)) : Met l yX9_back (dw_ws yX9_back cX9_back 1 (some .int)) (dw_rm 5 110) (dw_P Γ ([.ref (dw_ad Γ 0)] : List Value) μ) (dw_Qi Γ r ν) 0 0 (dw_A Γ) := by
  refine dw_met (own := RX9) rfl rfl (Nat.le_of_ble_eq_true rfl) hj ?_
  intro p e s m below meth c C0 hr hlk Z ls hl
  have hx := C0.1
  have hb := C0.2.1
  have hl : lv_has ls 1 [(0, .ref (dw_ad Γ 0))] := hl
  suffices key : ∀ (H : Heap) (locs : List Loc), dw_Z Γ (dw_A Γ) s.heap μ H locs → W p l e (dw_rm 5 110) s m ([.ref (dw_ad Γ 0)] : List Value).toArray below meth c H locs 0 0 (MQ below (dw_Qi Γ r ν) ([.ref (dw_ad Γ 0)] : List Value).toArray s 0 0 (dw_A Γ)) (F0 m 0 ls []) from key _ _ Z
  clear Z
  intro H locs Z
  unfold fX9_back at h
  refine lv_aload_n hx hb dX9_back_0 rfl (lv_at hl 0 rfl) ?_
  refine dw_g9_2 C0 Z dw_kc0 tw_fX9_40 dX9_back_1 ?_
  refine lv_if_ne (tgt := 10) hx hb dX9_back_4 (by decide) (fun c1 => ?_) (fun c1 => ?_)
  · have h := dw_ifF c1 h
    refine lv_aload_n hx hb dX9_back_10 rfl (lv_at hl 0 rfl) ?_
    refine dw_g9_0 (t := 1) C0 Z dw_kc0 tw_fX9_12 rfl dX9_back_11 ?_
    refine lv_aload_n hx hb dX9_back_14 rfl (lv_at hl 0 rfl) ?_
    refine dw_g9_1 (t := 64) C0 Z dw_kc0 tw_fX9_16 rfl dX9_back_15 ?_
    obtain ⟨μ3, hc2, h⟩ := dw_bdS h
    refine dw_cVv C0 Z dw_hA (dw_lt dw_kc1 (by decide)) (dw_cz6 dw_kc1) rfl (As := [.ref (dw_ad Γ 64)]) (rest := []) (kX6_copyFrom l Γ hj μ 1 dw_kc1 64 dw_kc64 hc2) (dw_gV tw_lX9_304 tw_vX6_copyFrom tw_eX6_copyFrom tw_iX6 tw_kX6_copyFrom) dw_hX6_copyFrom ⟨Nat.le_of_ble_eq_true rfl, Nat.le_of_ble_eq_true rfl⟩ ⟨Nat.zero_le _, Nat.zero_le _⟩ hl.1 (Nat.le_of_ble_eq_true rfl) rfl dX9_back_18 (fun H locs Z => ?_)
    refine lv_iconst (v := (1 : Int32)) hx hb dX9_back_21 (by decide) ?_
    obtain ⟨rfl, rfl⟩ := dw_s2 h
    exact dw_iret C0 Z hr hlk dX9_back_22
  · have h := dw_ifT c1 h
    refine lv_bipush (v := (-6 : Int32)) hx hb dX9_back_7 (by decide) ?_
    obtain ⟨rfl, rfl⟩ := dw_s2 h
    exact dw_iret C0 Z hr hlk dX9_back_9

def fX10_in (a1 : Int32) (a2 : Int32) (a3 : Int32) : Int32 :=
  if a1 < a2 then (
   (0 : Int32))
  else (
  if a3 < a1 then (
   (0 : Int32))
  else (
   (1 : Int32)))
set_option maxHeartbeats 4000000 in
set_option maxRecDepth 100000 in
theorem kX10_in (l : Launch) (Γ : dw_G) (hj : dw_inj Γ) (μ : dw_M) (a1 : Int32) (a2 : Int32) (a3 : Int32) {r : Int32} (h : fX10_in a1 a2 a3 = r) : Met l yX10_in (dw_ws yX10_in cX10_in 3 (some .boolean)) (dw_rm 0 0) (dw_P Γ ([.int a1, .int a2, .int a3] : List Value) μ) (dw_Qi Γ r μ) 0 0 (dw_A Γ) := by
  refine dw_met (own := RX10) rfl rfl (Nat.le_of_ble_eq_true rfl) hj ?_
  intro p e s m below meth c C0 hr hlk Z ls hl
  have hx := C0.1
  have hb := C0.2.1
  have hl : lv_has ls 3 [(0, .int a1), (1, .int a2), (2, .int a3)] := hl
  suffices key : ∀ (H : Heap) (locs : List Loc), dw_Z Γ (dw_A Γ) s.heap μ H locs → W p l e (dw_rm 0 0) s m ([.int a1, .int a2, .int a3] : List Value).toArray below meth c H locs 0 0 (MQ below (dw_Qi Γ r μ) ([.int a1, .int a2, .int a3] : List Value).toArray s 0 0 (dw_A Γ)) (F0 m 0 ls []) from key _ _ Z
  clear Z
  intro H locs Z
  unfold fX10_in at h
  refine lv_iload_n hx hb dX10_in_0 rfl (lv_at hl 0 rfl) ?_
  refine lv_iload_n hx hb dX10_in_1 rfl (lv_at hl 1 rfl) ?_
  refine lv_icmp_lt (tgt := 14) hx hb dX10_in_2 (by decide) (fun c1 => ?_) (fun c1 => ?_)
  · have h := dw_ifT c1 h
    refine lv_iconst (v := (0 : Int32)) hx hb dX10_in_14 (by decide) ?_
    obtain rfl := dw_t1 h
    exact dw_zret C0 Z hr hlk rfl dX10_in_15
  · have h := dw_ifF c1 h
    refine lv_iload_n hx hb dX10_in_5 rfl (lv_at hl 0 rfl) ?_
    refine lv_iload_n hx hb dX10_in_6 rfl (lv_at hl 2 rfl) ?_
    refine lv_icmp_gt (tgt := 14) hx hb dX10_in_7 (by decide) (fun c2 => ?_) (fun c2 => ?_)
    · have h := dw_ifT c2 h
      refine lv_iconst (v := (0 : Int32)) hx hb dX10_in_14 (by decide) ?_
      obtain rfl := dw_t1 h
      exact dw_zret C0 Z hr hlk rfl dX10_in_15
    · have h := dw_ifF c2 h
      refine lv_iconst (v := (1 : Int32)) hx hb dX10_in_10 (by decide) ?_
      refine lv_goto (tgt := 15) hx hb dX10_in_11 (by decide) ?_
      obtain rfl := dw_t1 h
      exact dw_zret C0 Z hr hlk rfl dX10_in_15
theorem zX10_in (a1 : Int32) (a2 : Int32) (a3 : Int32) : narrow .boolean (.int (fX10_in a1 a2 a3)) = .int (fX10_in a1 a2 a3) := by
  unfold fX10_in
  repeat' split
  all_goals first | rfl

def fX10_places (μ : dw_M) : Int32 :=
   ((μ.1 143 (0 : Int32).toNatClampNeg) * (μ.1 143 (1 : Int32).toNatClampNeg))
set_option maxHeartbeats 4000000 in
set_option maxRecDepth 100000 in
theorem kX10_places (l : Launch) (Γ : dw_G) (hj : dw_inj Γ) (μ : dw_M)  {r : Int32} (h : fX10_places μ = r) : Met l yX10_places (dw_ws yX10_places cX10_places 1 (some .int)) (dw_rm 0 0) (dw_P Γ ([.ref (dw_ad Γ 142)] : List Value) μ) (dw_Qi Γ r μ) 0 0 (dw_A Γ) := by
  refine dw_met (own := RX10) rfl rfl (Nat.le_of_ble_eq_true rfl) hj ?_
  intro p e s m below meth c C0 hr hlk Z ls hl
  have hx := C0.1
  have hb := C0.2.1
  have hl : lv_has ls 1 [(0, .ref (dw_ad Γ 142))] := hl
  suffices key : ∀ (H : Heap) (locs : List Loc), dw_Z Γ (dw_A Γ) s.heap μ H locs → W p l e (dw_rm 0 0) s m ([.ref (dw_ad Γ 142)] : List Value).toArray below meth c H locs 0 0 (MQ below (dw_Qi Γ r μ) ([.ref (dw_ad Γ 142)] : List Value).toArray s 0 0 (dw_A Γ)) (F0 m 0 ls []) from key _ _ Z
  clear Z
  intro H locs Z
  unfold fX10_places at h
  refine lv_aload_n hx hb dX10_places_0 rfl (lv_at hl 0 rfl) ?_
  refine dw_g10_0 (t := 143) C0 Z dw_kc142 tw_fX10_7 rfl dX10_places_1 ?_
  refine lv_iconst (v := (0 : Int32)) hx hb dX10_places_4 (by decide) ?_
  refine dw_ald C0 Z dw_kc143 dw_lc143 (by decide) dX10_places_5 ?_
  refine lv_aload_n hx hb dX10_places_6 rfl (lv_at hl 0 rfl) ?_
  refine dw_g10_0 (t := 143) C0 Z dw_kc142 tw_fX10_7 rfl dX10_places_7 ?_
  refine lv_iconst (v := (1 : Int32)) hx hb dX10_places_10 (by decide) ?_
  refine dw_ald C0 Z dw_kc143 dw_lc143 (by decide) dX10_places_11 ?_
  refine lv_imul hx hb dX10_places_12 ?_
  obtain rfl := dw_t1 h
  exact dw_iret C0 Z hr hlk dX10_places_13

def fX10_isPlace (μ : dw_M) (a1 : Int32) : Int32 :=
   (fX10_in a1 (0 : Int32) ((fX10_places μ) - (1 : Int32)))
set_option maxHeartbeats 4000000 in
set_option maxRecDepth 100000 in
theorem kX10_isPlace (l : Launch) (Γ : dw_G) (hj : dw_inj Γ) (μ : dw_M) (a1 : Int32) {r : Int32} (h : fX10_isPlace μ a1 = r) : Met l yX10_isPlace (dw_ws yX10_isPlace cX10_isPlace 2 (some .boolean)) (dw_rm 1 22) (dw_P Γ ([.ref (dw_ad Γ 142), .int a1] : List Value) μ) (dw_Qi Γ r μ) 0 0 (dw_A Γ) := by
  refine dw_met (own := RX10) rfl rfl (Nat.le_of_ble_eq_true rfl) hj ?_
  intro p e s m below meth c C0 hr hlk Z ls hl
  have hx := C0.1
  have hb := C0.2.1
  have hl : lv_has ls 2 [(0, .ref (dw_ad Γ 142)), (1, .int a1)] := hl
  suffices key : ∀ (H : Heap) (locs : List Loc), dw_Z Γ (dw_A Γ) s.heap μ H locs → W p l e (dw_rm 1 22) s m ([.ref (dw_ad Γ 142), .int a1] : List Value).toArray below meth c H locs 0 0 (MQ below (dw_Qi Γ r μ) ([.ref (dw_ad Γ 142), .int a1] : List Value).toArray s 0 0 (dw_A Γ)) (F0 m 0 ls []) from key _ _ Z
  clear Z
  intro H locs Z
  unfold fX10_isPlace at h
  refine lv_iload_n hx hb dX10_isPlace_0 rfl (lv_at hl 1 rfl) ?_
  refine lv_iconst (v := (0 : Int32)) hx hb dX10_isPlace_1 (by decide) ?_
  refine lv_aload_n hx hb dX10_isPlace_2 rfl (lv_at hl 0 rfl) ?_
  refine dw_cVi C0 Z dw_hA (dw_lt dw_kc142 (by decide)) (dw_cz10 dw_kc142) rfl (As := []) (rest := [.int (0 : Int32), .int a1]) (kX10_places l Γ hj μ rfl) (dw_gV tw_lX10_25 tw_vX10_places tw_eX10_places tw_iX10 tw_kX10_places) dw_hX10_places ⟨Nat.le_of_ble_eq_true rfl, Nat.le_of_ble_eq_true rfl⟩ ⟨Nat.zero_le _, Nat.zero_le _⟩ hl.1 (Nat.le_of_ble_eq_true rfl) rfl dX10_isPlace_3 (fun H locs Z => ?_)
  refine lv_iconst (v := (1 : Int32)) hx hb dX10_isPlace_6 (by decide) ?_
  refine lv_isub hx hb dX10_isPlace_7 ?_
  refine dw_cSi C0 Z dw_hA (As := [.int a1, .int (0 : Int32), .int ((fX10_places μ) - (1 : Int32))]) (rest := []) (kX10_in l Γ hj μ a1 (0 : Int32) ((fX10_places μ) - (1 : Int32)) rfl) (dw_gS tw_lX10_29 tw_sX10_in tw_iX10 tw_kX10_in) dw_hX10_in ⟨Nat.le_of_ble_eq_true rfl, Nat.le_of_ble_eq_true rfl⟩ ⟨Nat.zero_le _, Nat.zero_le _⟩ hl.1 (Nat.le_of_ble_eq_true rfl) rfl dX10_isPlace_8 (fun H locs Z => ?_)
  obtain rfl := dw_t1 h
  exact dw_zret C0 Z hr hlk (zX10_in a1 (0 : Int32) ((fX10_places μ) - (1 : Int32))) dX10_isPlace_11
theorem zX10_isPlace (μ : dw_M) (a1 : Int32) : narrow .boolean (.int (fX10_isPlace μ a1)) = .int (fX10_isPlace μ a1) := by
  unfold fX10_isPlace
  repeat' split
  all_goals first | rfl | exact zX10_in _ _ _

def fX10_isPipe (μ : dw_M) (a1 : Int32) : Int32 :=
   (fX10_in a1 (0 : Int32) ((μ.1 143 (13 : Int32).toNatClampNeg) - (1 : Int32)))
set_option maxHeartbeats 4000000 in
set_option maxRecDepth 100000 in
theorem kX10_isPipe (l : Launch) (Γ : dw_G) (hj : dw_inj Γ) (μ : dw_M) (a1 : Int32) {r : Int32} (h : fX10_isPipe μ a1 = r) : Met l yX10_isPipe (dw_ws yX10_isPipe cX10_isPipe 2 (some .boolean)) (dw_rm 1 22) (dw_P Γ ([.ref (dw_ad Γ 142), .int a1] : List Value) μ) (dw_Qi Γ r μ) 0 0 (dw_A Γ) := by
  refine dw_met (own := RX10) rfl rfl (Nat.le_of_ble_eq_true rfl) hj ?_
  intro p e s m below meth c C0 hr hlk Z ls hl
  have hx := C0.1
  have hb := C0.2.1
  have hl : lv_has ls 2 [(0, .ref (dw_ad Γ 142)), (1, .int a1)] := hl
  suffices key : ∀ (H : Heap) (locs : List Loc), dw_Z Γ (dw_A Γ) s.heap μ H locs → W p l e (dw_rm 1 22) s m ([.ref (dw_ad Γ 142), .int a1] : List Value).toArray below meth c H locs 0 0 (MQ below (dw_Qi Γ r μ) ([.ref (dw_ad Γ 142), .int a1] : List Value).toArray s 0 0 (dw_A Γ)) (F0 m 0 ls []) from key _ _ Z
  clear Z
  intro H locs Z
  unfold fX10_isPipe at h
  refine lv_iload_n hx hb dX10_isPipe_0 rfl (lv_at hl 1 rfl) ?_
  refine lv_iconst (v := (0 : Int32)) hx hb dX10_isPipe_1 (by decide) ?_
  refine lv_aload_n hx hb dX10_isPipe_2 rfl (lv_at hl 0 rfl) ?_
  refine dw_g10_0 (t := 143) C0 Z dw_kc142 tw_fX10_7 rfl dX10_isPipe_3 ?_
  refine lv_bipush (v := (13 : Int32)) hx hb dX10_isPipe_6 (by decide) ?_
  refine dw_ald C0 Z dw_kc143 dw_lc143 (by decide) dX10_isPipe_8 ?_
  refine lv_iconst (v := (1 : Int32)) hx hb dX10_isPipe_9 (by decide) ?_
  refine lv_isub hx hb dX10_isPipe_10 ?_
  refine dw_cSi C0 Z dw_hA (As := [.int a1, .int (0 : Int32), .int ((μ.1 143 (13 : Int32).toNatClampNeg) - (1 : Int32))]) (rest := []) (kX10_in l Γ hj μ a1 (0 : Int32) ((μ.1 143 (13 : Int32).toNatClampNeg) - (1 : Int32)) rfl) (dw_gS tw_lX10_29 tw_sX10_in tw_iX10 tw_kX10_in) dw_hX10_in ⟨Nat.le_of_ble_eq_true rfl, Nat.le_of_ble_eq_true rfl⟩ ⟨Nat.zero_le _, Nat.zero_le _⟩ hl.1 (Nat.le_of_ble_eq_true rfl) rfl dX10_isPipe_11 (fun H locs Z => ?_)
  obtain rfl := dw_t1 h
  exact dw_zret C0 Z hr hlk (zX10_in a1 (0 : Int32) ((μ.1 143 (13 : Int32).toNatClampNeg) - (1 : Int32))) dX10_isPipe_14
theorem zX10_isPipe (μ : dw_M) (a1 : Int32) : narrow .boolean (.int (fX10_isPipe μ a1)) = .int (fX10_isPipe μ a1) := by
  unfold fX10_isPipe
  repeat' split
  all_goals first | rfl | exact zX10_in _ _ _

def fX10_pipeOf (μ : dw_M) (a1 : Int32) (a2 : Int32) : Option (Int32) :=
  dw_gd (dw_ok (((400 : Int32) + ((20 : Int32) * a1)) + a2) 800) (
  some (μ.1 143 (((400 : Int32) + ((20 : Int32) * a1)) + a2).toNatClampNeg))
set_option maxHeartbeats 4000000 in
set_option maxRecDepth 100000 in
theorem kX10_pipeOf (l : Launch) (Γ : dw_G) (hj : dw_inj Γ) (μ : dw_M) (a1 : Int32) (a2 : Int32) {r : Int32} (h : fX10_pipeOf μ a1 a2 = some r) : Met l yX10_pipeOf (dw_ws yX10_pipeOf cX10_pipeOf 3 (some .int)) (dw_rm 0 0) (dw_P Γ ([.ref (dw_ad Γ 142), .int a1, .int a2] : List Value) μ) (dw_Qi Γ r μ) 0 0 (dw_A Γ) := by
  refine dw_met (own := RX10) rfl rfl (Nat.le_of_ble_eq_true rfl) hj ?_
  intro p e s m below meth c C0 hr hlk Z ls hl
  have hx := C0.1
  have hb := C0.2.1
  have hl : lv_has ls 3 [(0, .ref (dw_ad Γ 142)), (1, .int a1), (2, .int a2)] := hl
  suffices key : ∀ (H : Heap) (locs : List Loc), dw_Z Γ (dw_A Γ) s.heap μ H locs → W p l e (dw_rm 0 0) s m ([.ref (dw_ad Γ 142), .int a1, .int a2] : List Value).toArray below meth c H locs 0 0 (MQ below (dw_Qi Γ r μ) ([.ref (dw_ad Γ 142), .int a1, .int a2] : List Value).toArray s 0 0 (dw_A Γ)) (F0 m 0 ls []) from key _ _ Z
  clear Z
  intro H locs Z
  unfold fX10_pipeOf at h
  refine lv_aload_n hx hb dX10_pipeOf_0 rfl (lv_at hl 0 rfl) ?_
  refine dw_g10_0 (t := 143) C0 Z dw_kc142 tw_fX10_7 rfl dX10_pipeOf_1 ?_
  refine lv_sipush (v := (400 : Int32)) hx hb dX10_pipeOf_4 (by decide) ?_
  refine lv_bipush (v := (20 : Int32)) hx hb dX10_pipeOf_7 (by decide) ?_
  refine lv_iload_n hx hb dX10_pipeOf_9 rfl (lv_at hl 1 rfl) ?_
  refine lv_imul hx hb dX10_pipeOf_10 ?_
  refine lv_iadd hx hb dX10_pipeOf_11 ?_
  refine lv_iload_n hx hb dX10_pipeOf_12 rfl (lv_at hl 2 rfl) ?_
  refine lv_iadd hx hb dX10_pipeOf_13 ?_
  obtain ⟨g1, h⟩ := dw_gdS h
  refine dw_ald C0 Z dw_kc143 dw_lc143 g1 dX10_pipeOf_14 ?_
  obtain rfl := dw_s1 h
  exact dw_iret C0 Z hr hlk dX10_pipeOf_15

def fX10_setPipe (μ : dw_M) (a1 : Int32) (a2 : Int32) (a3 : Int32) : Option (dw_M) :=
  dw_gd (dw_ok (((400 : Int32) + ((20 : Int32) * a1)) + a2) 800) (
  dw_nm (dw_st μ 143 (((400 : Int32) + ((20 : Int32) * a1)) + a2).toNatClampNeg a3) (fun μ2 =>
  some μ2))
set_option maxHeartbeats 4000000 in
set_option maxRecDepth 100000 in
theorem kX10_setPipe (l : Launch) (Γ : dw_G) (hj : dw_inj Γ) (μ : dw_M) (a1 : Int32) (a2 : Int32) (a3 : Int32) {ν : dw_M} (h : fX10_setPipe μ a1 a2 a3 = some ν) : Met l yX10_setPipe (dw_ws yX10_setPipe cX10_setPipe 4 none) (dw_rm 0 0) (dw_P Γ ([.ref (dw_ad Γ 142), .int a1, .int a2, .int a3] : List Value) μ) (dw_Qv Γ ν) 0 0 (dw_A Γ) := by
  refine dw_met (own := RX10) rfl rfl (Nat.le_of_ble_eq_true rfl) hj ?_
  intro p e s m below meth c C0 hr hlk Z ls hl
  have hx := C0.1
  have hb := C0.2.1
  have hl : lv_has ls 4 [(0, .ref (dw_ad Γ 142)), (1, .int a1), (2, .int a2), (3, .int a3)] := hl
  suffices key : ∀ (H : Heap) (locs : List Loc), dw_Z Γ (dw_A Γ) s.heap μ H locs → W p l e (dw_rm 0 0) s m ([.ref (dw_ad Γ 142), .int a1, .int a2, .int a3] : List Value).toArray below meth c H locs 0 0 (MQ below (dw_Qv Γ ν) ([.ref (dw_ad Γ 142), .int a1, .int a2, .int a3] : List Value).toArray s 0 0 (dw_A Γ)) (F0 m 0 ls []) from key _ _ Z
  clear Z
  intro H locs Z
  unfold fX10_setPipe at h
  refine lv_aload_n hx hb dX10_setPipe_0 rfl (lv_at hl 0 rfl) ?_
  refine dw_g10_0 (t := 143) C0 Z dw_kc142 tw_fX10_7 rfl dX10_setPipe_1 ?_
  refine lv_sipush (v := (400 : Int32)) hx hb dX10_setPipe_4 (by decide) ?_
  refine lv_bipush (v := (20 : Int32)) hx hb dX10_setPipe_7 (by decide) ?_
  refine lv_iload_n hx hb dX10_setPipe_9 rfl (lv_at hl 1 rfl) ?_
  refine lv_imul hx hb dX10_setPipe_10 ?_
  refine lv_iadd hx hb dX10_setPipe_11 ?_
  refine lv_iload_n hx hb dX10_setPipe_12 rfl (lv_at hl 2 rfl) ?_
  refine lv_iadd hx hb dX10_setPipe_13 ?_
  refine lv_iload_n hx hb dX10_setPipe_14 rfl (lv_at hl 3 rfl) ?_
  obtain ⟨g1, h⟩ := dw_gdS h
  refine dw_ast C0 Z dw_hA dw_kc143 dw_lc143 g1 dX10_setPipe_15 (fun μ2 eμ2 H locs Z => ?_)
  have h := dw_nmS eμ2 h
  obtain rfl := dw_s1 h
  exact dw_vret C0 Z hr hlk dX10_setPipe_16

def fX10_rowOf (μ : dw_M) (a1 : Int32) : Option (Int32) :=
  dw_gd (dw_nz (μ.1 143 (1 : Int32).toNatClampNeg)) (
  some (a1 / (μ.1 143 (1 : Int32).toNatClampNeg)))
set_option maxHeartbeats 4000000 in
set_option maxRecDepth 100000 in
theorem kX10_rowOf (l : Launch) (Γ : dw_G) (hj : dw_inj Γ) (μ : dw_M) (a1 : Int32) {r : Int32} (h : fX10_rowOf μ a1 = some r) : Met l yX10_rowOf (dw_ws yX10_rowOf cX10_rowOf 2 (some .int)) (dw_rm 0 0) (dw_P Γ ([.ref (dw_ad Γ 142), .int a1] : List Value) μ) (dw_Qi Γ r μ) 0 0 (dw_A Γ) := by
  refine dw_met (own := RX10) rfl rfl (Nat.le_of_ble_eq_true rfl) hj ?_
  intro p e s m below meth c C0 hr hlk Z ls hl
  have hx := C0.1
  have hb := C0.2.1
  have hl : lv_has ls 2 [(0, .ref (dw_ad Γ 142)), (1, .int a1)] := hl
  suffices key : ∀ (H : Heap) (locs : List Loc), dw_Z Γ (dw_A Γ) s.heap μ H locs → W p l e (dw_rm 0 0) s m ([.ref (dw_ad Γ 142), .int a1] : List Value).toArray below meth c H locs 0 0 (MQ below (dw_Qi Γ r μ) ([.ref (dw_ad Γ 142), .int a1] : List Value).toArray s 0 0 (dw_A Γ)) (F0 m 0 ls []) from key _ _ Z
  clear Z
  intro H locs Z
  unfold fX10_rowOf at h
  refine lv_iload_n hx hb dX10_rowOf_0 rfl (lv_at hl 1 rfl) ?_
  refine lv_aload_n hx hb dX10_rowOf_1 rfl (lv_at hl 0 rfl) ?_
  refine dw_g10_0 (t := 143) C0 Z dw_kc142 tw_fX10_7 rfl dX10_rowOf_2 ?_
  refine lv_iconst (v := (1 : Int32)) hx hb dX10_rowOf_5 (by decide) ?_
  refine dw_ald C0 Z dw_kc143 dw_lc143 (by decide) dX10_rowOf_6 ?_
  obtain ⟨g1, h⟩ := dw_gdS h
  refine lv_idiv hx hb dX10_rowOf_7 (dw_nzS g1) ?_
  obtain rfl := dw_s1 h
  exact dw_iret C0 Z hr hlk dX10_rowOf_8

def fX10_columnOf (μ : dw_M) (a1 : Int32) : Option (Int32) :=
  dw_gd (dw_nz (μ.1 143 (1 : Int32).toNatClampNeg)) (
  some (dw_re a1 (μ.1 143 (1 : Int32).toNatClampNeg)))
set_option maxHeartbeats 4000000 in
set_option maxRecDepth 100000 in
theorem kX10_columnOf (l : Launch) (Γ : dw_G) (hj : dw_inj Γ) (μ : dw_M) (a1 : Int32) {r : Int32} (h : fX10_columnOf μ a1 = some r) : Met l yX10_columnOf (dw_ws yX10_columnOf cX10_columnOf 2 (some .int)) (dw_rm 0 0) (dw_P Γ ([.ref (dw_ad Γ 142), .int a1] : List Value) μ) (dw_Qi Γ r μ) 0 0 (dw_A Γ) := by
  refine dw_met (own := RX10) rfl rfl (Nat.le_of_ble_eq_true rfl) hj ?_
  intro p e s m below meth c C0 hr hlk Z ls hl
  have hx := C0.1
  have hb := C0.2.1
  have hl : lv_has ls 2 [(0, .ref (dw_ad Γ 142)), (1, .int a1)] := hl
  suffices key : ∀ (H : Heap) (locs : List Loc), dw_Z Γ (dw_A Γ) s.heap μ H locs → W p l e (dw_rm 0 0) s m ([.ref (dw_ad Γ 142), .int a1] : List Value).toArray below meth c H locs 0 0 (MQ below (dw_Qi Γ r μ) ([.ref (dw_ad Γ 142), .int a1] : List Value).toArray s 0 0 (dw_A Γ)) (F0 m 0 ls []) from key _ _ Z
  clear Z
  intro H locs Z
  unfold fX10_columnOf at h
  refine lv_iload_n hx hb dX10_columnOf_0 rfl (lv_at hl 1 rfl) ?_
  refine lv_aload_n hx hb dX10_columnOf_1 rfl (lv_at hl 0 rfl) ?_
  refine dw_g10_0 (t := 143) C0 Z dw_kc142 tw_fX10_7 rfl dX10_columnOf_2 ?_
  refine lv_iconst (v := (1 : Int32)) hx hb dX10_columnOf_5 (by decide) ?_
  refine dw_ald C0 Z dw_kc143 dw_lc143 (by decide) dX10_columnOf_6 ?_
  obtain ⟨g1, h⟩ := dw_gdS h
  refine lv_irem hx hb dX10_columnOf_7 (dw_nzS g1) ?_
  refine W.eq (g2 := F0 m 8 ls [.int (dw_re a1 (μ.1 143 (1 : Int32).toNatClampNeg))]) rfl ?_
  obtain rfl := dw_s1 h
  exact dw_iret C0 Z hr hlk dX10_columnOf_8

def fX10_size (a1 : Int32) : Int32 :=
  if 0 ≤ a1 then (
   a1)
  else (
   (-a1))
set_option maxHeartbeats 4000000 in
set_option maxRecDepth 100000 in
theorem kX10_size (l : Launch) (Γ : dw_G) (hj : dw_inj Γ) (μ : dw_M) (a1 : Int32) {r : Int32} (h : fX10_size a1 = r) : Met l yX10_size (dw_ws yX10_size cX10_size 1 (some .int)) (dw_rm 0 0) (dw_P Γ ([.int a1] : List Value) μ) (dw_Qi Γ r μ) 0 0 (dw_A Γ) := by
  refine dw_met (own := RX10) rfl rfl (Nat.le_of_ble_eq_true rfl) hj ?_
  intro p e s m below meth c C0 hr hlk Z ls hl
  have hx := C0.1
  have hb := C0.2.1
  have hl : lv_has ls 1 [(0, .int a1)] := hl
  suffices key : ∀ (H : Heap) (locs : List Loc), dw_Z Γ (dw_A Γ) s.heap μ H locs → W p l e (dw_rm 0 0) s m ([.int a1] : List Value).toArray below meth c H locs 0 0 (MQ below (dw_Qi Γ r μ) ([.int a1] : List Value).toArray s 0 0 (dw_A Γ)) (F0 m 0 ls []) from key _ _ Z
  clear Z
  intro H locs Z
  unfold fX10_size at h
  refine lv_iload_n hx hb dX10_size_0 rfl (lv_at hl 0 rfl) ?_
  refine lv_if_ge (tgt := 9) hx hb dX10_size_1 (by decide) (fun c1 => ?_) (fun c1 => ?_)
  · have h := dw_ifT c1 h
    refine lv_iload_n hx hb dX10_size_9 rfl (lv_at hl 0 rfl) ?_
    obtain rfl := dw_t1 h
    exact dw_iret C0 Z hr hlk dX10_size_10
  · have h := dw_ifF c1 h
    refine lv_iload_n hx hb dX10_size_4 rfl (lv_at hl 0 rfl) ?_
    refine lv_ineg hx hb dX10_size_5 ?_
    refine lv_goto (tgt := 10) hx hb dX10_size_6 (by decide) ?_
    obtain rfl := dw_t1 h
    exact dw_iret C0 Z hr hlk dX10_size_10

def fX10_lesser (a1 : Int32) (a2 : Int32) : Int32 :=
  if a2 ≤ a1 then (
   a2)
  else (
   a1)
set_option maxHeartbeats 4000000 in
set_option maxRecDepth 100000 in
theorem kX10_lesser (l : Launch) (Γ : dw_G) (hj : dw_inj Γ) (μ : dw_M) (a1 : Int32) (a2 : Int32) {r : Int32} (h : fX10_lesser a1 a2 = r) : Met l yX10_lesser (dw_ws yX10_lesser cX10_lesser 2 (some .int)) (dw_rm 0 0) (dw_P Γ ([.int a1, .int a2] : List Value) μ) (dw_Qi Γ r μ) 0 0 (dw_A Γ) := by
  refine dw_met (own := RX10) rfl rfl (Nat.le_of_ble_eq_true rfl) hj ?_
  intro p e s m below meth c C0 hr hlk Z ls hl
  have hx := C0.1
  have hb := C0.2.1
  have hl : lv_has ls 2 [(0, .int a1), (1, .int a2)] := hl
  suffices key : ∀ (H : Heap) (locs : List Loc), dw_Z Γ (dw_A Γ) s.heap μ H locs → W p l e (dw_rm 0 0) s m ([.int a1, .int a2] : List Value).toArray below meth c H locs 0 0 (MQ below (dw_Qi Γ r μ) ([.int a1, .int a2] : List Value).toArray s 0 0 (dw_A Γ)) (F0 m 0 ls []) from key _ _ Z
  clear Z
  intro H locs Z
  unfold fX10_lesser at h
  refine lv_iload_n hx hb dX10_lesser_0 rfl (lv_at hl 0 rfl) ?_
  refine lv_iload_n hx hb dX10_lesser_1 rfl (lv_at hl 1 rfl) ?_
  refine lv_icmp_ge (tgt := 9) hx hb dX10_lesser_2 (by decide) (fun c1 => ?_) (fun c1 => ?_)
  · have h := dw_ifT c1 h
    refine lv_iload_n hx hb dX10_lesser_9 rfl (lv_at hl 1 rfl) ?_
    obtain rfl := dw_t1 h
    exact dw_iret C0 Z hr hlk dX10_lesser_10
  · have h := dw_ifF c1 h
    refine lv_iload_n hx hb dX10_lesser_5 rfl (lv_at hl 0 rfl) ?_
    refine lv_goto (tgt := 10) hx hb dX10_lesser_6 (by decide) ?_
    obtain rfl := dw_t1 h
    exact dw_iret C0 Z hr hlk dX10_lesser_10

def sX10_land_24  (x3 : Int32) (μ4 : dw_M) : Option ((Int32 × dw_M) ⊕ ((dw_M))) :=
  if (800 : Int32) ≤ x3 then (
  some (.inr μ4))
  else (
  if x3 < (300 : Int32) then (
  dw_gd (dw_ok x3 800) (
  dw_nm (dw_st μ4 143 x3.toNatClampNeg (0 : Int32)) (fun μ8 =>
  dw_nm (x3 + (1 : Int32)) (fun x9 =>
  some (.inl (x9, μ8))))))
  else (
  if (400 : Int32) ≤ x3 then (
  dw_gd (dw_ok x3 800) (
  dw_nm (dw_st μ4 143 x3.toNatClampNeg (0 : Int32)) (fun μ12 =>
  dw_nm (x3 + (1 : Int32)) (fun x13 =>
  some (.inl (x13, μ12))))))
  else (
  dw_gd (dw_ok x3 800) (
  dw_nm (dw_st μ4 143 x3.toNatClampNeg (μ4.1 143 x3.toNatClampNeg)) (fun μ15 =>
  dw_nm (x3 + (1 : Int32)) (fun x16 =>
  some (.inl (x16, μ15))))))))
def sX10_land_83  (x20 : Int32) (μ21 : dw_M) : Option ((Int32 × dw_M) ⊕ ((dw_M))) :=
  if (36 : Int32) ≤ x20 then (
  some (.inr μ21))
  else (
  dw_gd (dw_ok ((20 : Int32) + x20) 800) (
  dw_nm (dw_st μ21 143 ((20 : Int32) + x20).toNatClampNeg (1000 : Int32)) (fun μ24 =>
  dw_nm (x20 + (1 : Int32)) (fun x25 =>
  some (.inl (x25, μ24))))))
def fX10_land (μ : dw_M) (a1 : Int32) (a2 : Int32) : Option (Int32 × dw_M) :=
  if (fX10_in a1 (1 : Int32) (6 : Int32)) = 0 then (
  some ((-1 : Int32), μ))
  else (
  if (fX10_in a2 (1 : Int32) (6 : Int32)) = 0 then (
  some ((-1 : Int32), μ))
  else (
  dw_bd (dw_wh (fun v => sX10_land_24 v.1 v.2) 1000 ((0 : Int32), μ))
    (fun μ17 => dw_nm (dw_st μ17 143 (0 : Int32).toNatClampNeg a1) (fun μ18 =>
  dw_nm (dw_st μ18 143 (1 : Int32).toNatClampNeg a2) (fun μ19 =>
  dw_bd (dw_wh (fun v => sX10_land_83 v.1 v.2) 1000 ((0 : Int32), μ19))
    (fun μ26 => some ((a1 * a2), μ26)))))))
set_option maxHeartbeats 4000000 in
set_option maxRecDepth 100000 in
theorem kX10_land (l : Launch) (Γ : dw_G) (hj : dw_inj Γ) (μ : dw_M) (a1 : Int32) (a2 : Int32) {r : Int32} {ν : dw_M} (h : fX10_land μ a1 a2 = some (r, ν)) : Met l yX10_land (dw_ws yX10_land cX10_land 4 (some .int)) (dw_rm 1 22) (dw_P Γ ([.ref (dw_ad Γ 142), .int a1, .int a2] : List Value) μ) (dw_Qi Γ r ν) 0 0 (dw_A Γ) := by
  refine dw_met (own := RX10) rfl rfl (Nat.le_of_ble_eq_true rfl) hj ?_
  intro p e s m below meth c C0 hr hlk Z ls hl
  have hx := C0.1
  have hb := C0.2.1
  have hl : lv_has ls 4 [(0, .ref (dw_ad Γ 142)), (1, .int a1), (2, .int a2)] := hl
  suffices key : ∀ (H : Heap) (locs : List Loc), dw_Z Γ (dw_A Γ) s.heap μ H locs → W p l e (dw_rm 1 22) s m ([.ref (dw_ad Γ 142), .int a1, .int a2] : List Value).toArray below meth c H locs 0 0 (MQ below (dw_Qi Γ r ν) ([.ref (dw_ad Γ 142), .int a1, .int a2] : List Value).toArray s 0 0 (dw_A Γ)) (F0 m 0 ls []) from key _ _ Z
  clear Z
  intro H locs Z
  unfold fX10_land at h
  refine lv_iload_n hx hb dX10_land_0 rfl (lv_at hl 1 rfl) ?_
  refine lv_iconst (v := (1 : Int32)) hx hb dX10_land_1 (by decide) ?_
  refine lv_bipush (v := (6 : Int32)) hx hb dX10_land_2 (by decide) ?_
  refine dw_cSi C0 Z dw_hA (As := [.int a1, .int (1 : Int32), .int (6 : Int32)]) (rest := []) (kX10_in l Γ hj μ a1 (1 : Int32) (6 : Int32) rfl) (dw_gS tw_lX10_29 tw_sX10_in tw_iX10 tw_kX10_in) dw_hX10_in ⟨Nat.le_of_ble_eq_true rfl, Nat.le_of_ble_eq_true rfl⟩ ⟨Nat.zero_le _, Nat.zero_le _⟩ hl.1 (Nat.le_of_ble_eq_true rfl) rfl dX10_land_4 (fun H locs Z => ?_)
  refine lv_if_eq (tgt := 20) hx hb dX10_land_7 (by decide) (fun c1 => ?_) (fun c1 => ?_)
  · have h := dw_ifT c1 h
    refine lv_iconst (v := (-1 : Int32)) hx hb dX10_land_20 (by decide) ?_
    obtain ⟨rfl, rfl⟩ := dw_s2 h
    exact dw_iret C0 Z hr hlk dX10_land_21
  · have h := dw_ifF c1 h
    refine lv_iload_n hx hb dX10_land_10 rfl (lv_at hl 2 rfl) ?_
    refine lv_iconst (v := (1 : Int32)) hx hb dX10_land_11 (by decide) ?_
    refine lv_bipush (v := (6 : Int32)) hx hb dX10_land_12 (by decide) ?_
    refine dw_cSi C0 Z dw_hA (As := [.int a2, .int (1 : Int32), .int (6 : Int32)]) (rest := []) (kX10_in l Γ hj μ a2 (1 : Int32) (6 : Int32) rfl) (dw_gS tw_lX10_29 tw_sX10_in tw_iX10 tw_kX10_in) dw_hX10_in ⟨Nat.le_of_ble_eq_true rfl, Nat.le_of_ble_eq_true rfl⟩ ⟨Nat.zero_le _, Nat.zero_le _⟩ hl.1 (Nat.le_of_ble_eq_true rfl) rfl dX10_land_14 (fun H locs Z => ?_)
    refine lv_if_ne (tgt := 22) hx hb dX10_land_17 (by decide) (fun c2 => ?_) (fun c2 => ?_)
    · have h := dw_ifF c2 h
      refine lv_iconst (v := (0 : Int32)) hx hb dX10_land_22 (by decide) ?_
      refine lv_istore_n (lv' := [(3, .int (0 : Int32)), (0, .ref (dw_ad Γ 142)), (1, .int a1), (2, .int a2)]) hx hb dX10_land_23 rfl hl (by decide) rfl (fun ls hl => ?_)
      obtain ⟨kc24, ekc24, h⟩ := dw_bdK h
      have E24 : ∀ (μ17 : dw_M) (H : Heap) (locs : List Loc) (ls : Array Slot), dw_Z Γ (dw_A Γ) s.heap μ17 H locs → lv_has ls 4 [(0, .ref (dw_ad Γ 142)), (1, .int a1), (2, .int a2)] → kc24 μ17 = some (r, ν) → W p l e (dw_rm 1 22) s m ([.ref (dw_ad Γ 142), .int a1, .int a2] : List Value).toArray below meth c H locs 0 0 (MQ below (dw_Qi Γ r ν) ([.ref (dw_ad Γ 142), .int a1, .int a2] : List Value).toArray s 0 0 (dw_A Γ)) (F0 m 67 ls []) := by
        intro μ17 H locs ls Z hl h
        rw [ekc24] at h
        dsimp only at h
        refine lv_aload_n hx hb dX10_land_67 rfl (lv_at hl 0 rfl) ?_
        refine dw_g10_0 (t := 143) C0 Z dw_kc142 tw_fX10_7 rfl dX10_land_68 ?_
        refine lv_iconst (v := (0 : Int32)) hx hb dX10_land_71 (by decide) ?_
        refine lv_iload_n hx hb dX10_land_72 rfl (lv_at hl 1 rfl) ?_
        refine dw_ast C0 Z dw_hA dw_kc143 dw_lc143 (by decide) dX10_land_73 (fun μ18 eμ18 H locs Z => ?_)
        have h := dw_nmS eμ18 h
        refine lv_aload_n hx hb dX10_land_74 rfl (lv_at hl 0 rfl) ?_
        refine dw_g10_0 (t := 143) C0 Z dw_kc142 tw_fX10_7 rfl dX10_land_75 ?_
        refine lv_iconst (v := (1 : Int32)) hx hb dX10_land_78 (by decide) ?_
        refine lv_iload_n hx hb dX10_land_79 rfl (lv_at hl 2 rfl) ?_
        refine dw_ast C0 Z dw_hA dw_kc143 dw_lc143 (by decide) dX10_land_80 (fun μ19 eμ19 H locs Z => ?_)
        have h := dw_nmS eμ19 h
        refine lv_iconst (v := (0 : Int32)) hx hb dX10_land_81 (by decide) ?_
        refine lv_istore_n (lv' := [(3, .int (0 : Int32)), (0, .ref (dw_ad Γ 142)), (1, .int a1), (2, .int a2)]) hx hb dX10_land_82 rfl hl (by decide) rfl (fun ls hl => ?_)
        obtain ⟨kc83, ekc83, h⟩ := dw_bdK h
        have E83 : ∀ (μ26 : dw_M) (H : Heap) (locs : List Loc) (ls : Array Slot), dw_Z Γ (dw_A Γ) s.heap μ26 H locs → lv_has ls 4 [(1, .int a1), (2, .int a2)] → kc83 μ26 = some (r, ν) → W p l e (dw_rm 1 22) s m ([.ref (dw_ad Γ 142), .int a1, .int a2] : List Value).toArray below meth c H locs 0 0 (MQ below (dw_Qi Γ r ν) ([.ref (dw_ad Γ 142), .int a1, .int a2] : List Value).toArray s 0 0 (dw_A Γ)) (F0 m 107 ls []) := by
          intro μ26 H locs ls Z hl h
          rw [ekc83] at h
          dsimp only at h
          refine lv_iload_n hx hb dX10_land_107 rfl (lv_at hl 0 rfl) ?_
          refine lv_iload_n hx hb dX10_land_108 rfl (lv_at hl 1 rfl) ?_
          refine lv_imul hx hb dX10_land_109 ?_
          obtain ⟨rfl, rfl⟩ := dw_s2 h
          exact dw_iret C0 Z hr hlk dX10_land_110
        have L83 : ∀ (n83 : Nat) (x20 : Int32) (μ21 : dw_M) (H : Heap) (locs : List Loc) (ls : Array Slot), dw_Z Γ (dw_A Γ) s.heap μ21 H locs → lv_has ls 4 [(0, .ref (dw_ad Γ 142)), (1, .int a1), (2, .int a2), (3, .int x20)] → dw_bd (dw_wh (fun v => sX10_land_83 v.1 v.2) n83 (x20, μ21)) kc83 = some (r, ν) → W p l e (dw_rm 1 22) s m ([.ref (dw_ad Γ 142), .int a1, .int a2] : List Value).toArray below meth c H locs 0 0 (MQ below (dw_Qi Γ r ν) ([.ref (dw_ad Γ 142), .int a1, .int a2] : List Value).toArray s 0 0 (dw_A Γ)) (F0 m 83 ls []) := by
          clear h
          intro n83
          induction n83 with
          | zero =>
            intro x20 μ21 H locs ls Z hl h
            exact (dw_wh0 h).elim
          | succ n83 ih83 =>
            intro x20 μ21 H locs ls Z hl h
            obtain ⟨q83, hs, hq83⟩ := dw_whB h
            have h : sX10_land_83 x20 μ21 = some q83 := hs
            unfold sX10_land_83 at h
            refine lv_iload_n hx hb dX10_land_83 rfl (lv_at hl 3 rfl) ?_
            refine lv_bipush (v := (36 : Int32)) hx hb dX10_land_84 (by decide) ?_
            refine lv_icmp_ge (tgt := 107) hx hb dX10_land_86 (by decide) (fun c22 => ?_) (fun c22 => ?_)
            · have h := dw_ifT c22 h
              obtain rfl := dw_s1 h
              exact E83  μ21 H locs ls Z (lv_sub hl [1, 2] rfl) hq83
            · have h := dw_ifF c22 h
              refine lv_aload_n hx hb dX10_land_89 rfl (lv_at hl 0 rfl) ?_
              refine dw_g10_0 (t := 143) C0 Z dw_kc142 tw_fX10_7 rfl dX10_land_90 ?_
              refine lv_bipush (v := (20 : Int32)) hx hb dX10_land_93 (by decide) ?_
              refine lv_iload_n hx hb dX10_land_95 rfl (lv_at hl 3 rfl) ?_
              refine lv_iadd hx hb dX10_land_96 ?_
              refine lv_sipush (v := (1000 : Int32)) hx hb dX10_land_97 (by decide) ?_
              obtain ⟨g23, h⟩ := dw_gdS h
              refine dw_ast C0 Z dw_hA dw_kc143 dw_lc143 g23 dX10_land_100 (fun μ24 eμ24 H locs Z => ?_)
              have h := dw_nmS eμ24 h
              obtain ⟨x25, ex25⟩ := dw_eg (x20 + (1 : Int32))
              have h := dw_nmS ex25 h
              refine lv_iinc (v := x25) (lv' := [(3, .int x25), (0, .ref (dw_ad Γ 142)), (1, .int a1), (2, .int a2)]) hx hb dX10_land_101 hl (k := 3) rfl (by rw [ex25]; rfl) (by decide) rfl (fun ls hl => ?_)
              refine lv_goto (tgt := 83) hx hb dX10_land_104 (by decide) ?_
              obtain rfl := dw_s1 h
              exact ih83 x25 μ24 H locs ls Z (lv_sub hl [1, 2, 3, 0] rfl) hq83
        exact L83 1000 (0 : Int32) μ19 H locs ls Z (lv_sub hl [1, 2, 3, 0] rfl) h
      have L24 : ∀ (n24 : Nat) (x3 : Int32) (μ4 : dw_M) (H : Heap) (locs : List Loc) (ls : Array Slot), dw_Z Γ (dw_A Γ) s.heap μ4 H locs → lv_has ls 4 [(0, .ref (dw_ad Γ 142)), (1, .int a1), (2, .int a2), (3, .int x3)] → dw_bd (dw_wh (fun v => sX10_land_24 v.1 v.2) n24 (x3, μ4)) kc24 = some (r, ν) → W p l e (dw_rm 1 22) s m ([.ref (dw_ad Γ 142), .int a1, .int a2] : List Value).toArray below meth c H locs 0 0 (MQ below (dw_Qi Γ r ν) ([.ref (dw_ad Γ 142), .int a1, .int a2] : List Value).toArray s 0 0 (dw_A Γ)) (F0 m 24 ls []) := by
        clear h
        intro n24
        induction n24 with
        | zero =>
          intro x3 μ4 H locs ls Z hl h
          exact (dw_wh0 h).elim
        | succ n24 ih24 =>
          intro x3 μ4 H locs ls Z hl h
          obtain ⟨q24, hs, hq24⟩ := dw_whB h
          have h : sX10_land_24 x3 μ4 = some q24 := hs
          unfold sX10_land_24 at h
          refine lv_iload_n hx hb dX10_land_24 rfl (lv_at hl 3 rfl) ?_
          refine lv_sipush (v := (800 : Int32)) hx hb dX10_land_25 (by decide) ?_
          refine lv_icmp_ge (tgt := 67) hx hb dX10_land_28 (by decide) (fun c5 => ?_) (fun c5 => ?_)
          · have h := dw_ifT c5 h
            obtain rfl := dw_s1 h
            exact E24  μ4 H locs ls Z (lv_sub hl [0, 1, 2] rfl) hq24
          · have h := dw_ifF c5 h
            refine lv_aload_n hx hb dX10_land_31 rfl (lv_at hl 0 rfl) ?_
            refine dw_g10_0 (t := 143) C0 Z dw_kc142 tw_fX10_7 rfl dX10_land_32 ?_
            refine lv_iload_n hx hb dX10_land_35 rfl (lv_at hl 3 rfl) ?_
            refine lv_iload_n hx hb dX10_land_36 rfl (lv_at hl 3 rfl) ?_
            refine lv_sipush (v := (300 : Int32)) hx hb dX10_land_37 (by decide) ?_
            refine lv_icmp_lt (tgt := 59) hx hb dX10_land_40 (by decide) (fun c6 => ?_) (fun c6 => ?_)
            · have h := dw_ifT c6 h
              refine lv_iconst (v := (0 : Int32)) hx hb dX10_land_59 (by decide) ?_
              obtain ⟨g7, h⟩ := dw_gdS h
              refine dw_ast C0 Z dw_hA dw_kc143 dw_lc143 g7 dX10_land_60 (fun μ8 eμ8 H locs Z => ?_)
              have h := dw_nmS eμ8 h
              obtain ⟨x9, ex9⟩ := dw_eg (x3 + (1 : Int32))
              have h := dw_nmS ex9 h
              refine lv_iinc (v := x9) (lv' := [(3, .int x9), (0, .ref (dw_ad Γ 142)), (1, .int a1), (2, .int a2)]) hx hb dX10_land_61 hl (k := 3) rfl (by rw [ex9]; rfl) (by decide) rfl (fun ls hl => ?_)
              refine lv_goto (tgt := 24) hx hb dX10_land_64 (by decide) ?_
              obtain rfl := dw_s1 h
              exact ih24 x9 μ8 H locs ls Z (lv_sub hl [1, 2, 3, 0] rfl) hq24
            · have h := dw_ifF c6 h
              refine lv_iload_n hx hb dX10_land_43 rfl (lv_at hl 3 rfl) ?_
              refine lv_sipush (v := (400 : Int32)) hx hb dX10_land_44 (by decide) ?_
              refine lv_icmp_ge (tgt := 59) hx hb dX10_land_47 (by decide) (fun c10 => ?_) (fun c10 => ?_)
              · have h := dw_ifT c10 h
                refine lv_iconst (v := (0 : Int32)) hx hb dX10_land_59 (by decide) ?_
                obtain ⟨g11, h⟩ := dw_gdS h
                refine dw_ast C0 Z dw_hA dw_kc143 dw_lc143 g11 dX10_land_60 (fun μ12 eμ12 H locs Z => ?_)
                have h := dw_nmS eμ12 h
                obtain ⟨x13, ex13⟩ := dw_eg (x3 + (1 : Int32))
                have h := dw_nmS ex13 h
                refine lv_iinc (v := x13) (lv' := [(3, .int x13), (0, .ref (dw_ad Γ 142)), (1, .int a1), (2, .int a2)]) hx hb dX10_land_61 hl (k := 3) rfl (by rw [ex13]; rfl) (by decide) rfl (fun ls hl => ?_)
                refine lv_goto (tgt := 24) hx hb dX10_land_64 (by decide) ?_
                obtain rfl := dw_s1 h
                exact ih24 x13 μ12 H locs ls Z (lv_sub hl [1, 2, 3, 0] rfl) hq24
              · have h := dw_ifF c10 h
                refine lv_aload_n hx hb dX10_land_50 rfl (lv_at hl 0 rfl) ?_
                refine dw_g10_0 (t := 143) C0 Z dw_kc142 tw_fX10_7 rfl dX10_land_51 ?_
                refine lv_iload_n hx hb dX10_land_54 rfl (lv_at hl 3 rfl) ?_
                obtain ⟨g14, h⟩ := dw_gdS h
                refine dw_ald C0 Z dw_kc143 dw_lc143 g14 dX10_land_55 ?_
                refine lv_goto (tgt := 60) hx hb dX10_land_56 (by decide) ?_
                refine dw_ast C0 Z dw_hA dw_kc143 dw_lc143 g14 dX10_land_60 (fun μ15 eμ15 H locs Z => ?_)
                have h := dw_nmS eμ15 h
                obtain ⟨x16, ex16⟩ := dw_eg (x3 + (1 : Int32))
                have h := dw_nmS ex16 h
                refine lv_iinc (v := x16) (lv' := [(3, .int x16), (0, .ref (dw_ad Γ 142)), (1, .int a1), (2, .int a2)]) hx hb dX10_land_61 hl (k := 3) rfl (by rw [ex16]; rfl) (by decide) rfl (fun ls hl => ?_)
                refine lv_goto (tgt := 24) hx hb dX10_land_64 (by decide) ?_
                obtain rfl := dw_s1 h
                exact ih24 x16 μ15 H locs ls Z (lv_sub hl [1, 2, 3, 0] rfl) hq24
      exact L24 1000 (0 : Int32) μ H locs ls Z (lv_sub hl [1, 2, 3, 0] rfl) h
    · have h := dw_ifT c2 h
      refine lv_iconst (v := (-1 : Int32)) hx hb dX10_land_20 (by decide) ?_
      obtain ⟨rfl, rfl⟩ := dw_s2 h
      exact dw_iret C0 Z hr hlk dX10_land_21

def fX10_height (μ : dw_M) (a1 : Int32) (a2 : Int32) : Option (Int32 × dw_M) :=
  if (fX10_isPlace μ a1) = 0 then (
  some ((-1 : Int32), μ))
  else (
  if (fX10_in a2 (0 : Int32) (2000 : Int32)) = 0 then (
  some ((-1 : Int32), μ))
  else (
  dw_gd (dw_ok ((20 : Int32) + a1) 800) (
  dw_nm (dw_st μ 143 ((20 : Int32) + a1).toNatClampNeg a2) (fun μ4 =>
  some ((1 : Int32), μ4)))))
set_option maxHeartbeats 4000000 in
set_option maxRecDepth 100000 in
theorem kX10_height (l : Launch) (Γ : dw_G) (hj : dw_inj Γ) (μ : dw_M) (a1 : Int32) (a2 : Int32) {r : Int32} {ν : dw_M} (h : fX10_height μ a1 a2 = some (r, ν)) : Met l yX10_height (dw_ws yX10_height cX10_height 3 (some .int)) (dw_rm 2 43) (dw_P Γ ([.ref (dw_ad Γ 142), .int a1, .int a2] : List Value) μ) (dw_Qi Γ r ν) 0 0 (dw_A Γ) := by
  refine dw_met (own := RX10) rfl rfl (Nat.le_of_ble_eq_true rfl) hj ?_
  intro p e s m below meth c C0 hr hlk Z ls hl
  have hx := C0.1
  have hb := C0.2.1
  have hl : lv_has ls 3 [(0, .ref (dw_ad Γ 142)), (1, .int a1), (2, .int a2)] := hl
  suffices key : ∀ (H : Heap) (locs : List Loc), dw_Z Γ (dw_A Γ) s.heap μ H locs → W p l e (dw_rm 2 43) s m ([.ref (dw_ad Γ 142), .int a1, .int a2] : List Value).toArray below meth c H locs 0 0 (MQ below (dw_Qi Γ r ν) ([.ref (dw_ad Γ 142), .int a1, .int a2] : List Value).toArray s 0 0 (dw_A Γ)) (F0 m 0 ls []) from key _ _ Z
  clear Z
  intro H locs Z
  unfold fX10_height at h
  refine lv_aload_n hx hb dX10_height_0 rfl (lv_at hl 0 rfl) ?_
  refine lv_iload_n hx hb dX10_height_1 rfl (lv_at hl 1 rfl) ?_
  refine dw_cVi C0 Z dw_hA (dw_lt dw_kc142 (by decide)) (dw_cz10 dw_kc142) rfl (As := [.int a1]) (rest := []) (kX10_isPlace l Γ hj μ a1 rfl) (dw_gV tw_lX10_33 tw_vX10_isPlace tw_eX10_isPlace tw_iX10 tw_kX10_isPlace) dw_hX10_isPlace ⟨Nat.le_of_ble_eq_true rfl, Nat.le_of_ble_eq_true rfl⟩ ⟨Nat.zero_le _, Nat.zero_le _⟩ hl.1 (Nat.le_of_ble_eq_true rfl) rfl dX10_height_2 (fun H locs Z => ?_)
  refine lv_if_eq (tgt := 19) hx hb dX10_height_5 (by decide) (fun c1 => ?_) (fun c1 => ?_)
  · have h := dw_ifT c1 h
    refine lv_iconst (v := (-1 : Int32)) hx hb dX10_height_19 (by decide) ?_
    obtain ⟨rfl, rfl⟩ := dw_s2 h
    exact dw_iret C0 Z hr hlk dX10_height_20
  · have h := dw_ifF c1 h
    refine lv_iload_n hx hb dX10_height_8 rfl (lv_at hl 2 rfl) ?_
    refine lv_iconst (v := (0 : Int32)) hx hb dX10_height_9 (by decide) ?_
    refine lv_sipush (v := (2000 : Int32)) hx hb dX10_height_10 (by decide) ?_
    refine dw_cSi C0 Z dw_hA (As := [.int a2, .int (0 : Int32), .int (2000 : Int32)]) (rest := []) (kX10_in l Γ hj μ a2 (0 : Int32) (2000 : Int32) rfl) (dw_gS tw_lX10_29 tw_sX10_in tw_iX10 tw_kX10_in) dw_hX10_in ⟨Nat.le_of_ble_eq_true rfl, Nat.le_of_ble_eq_true rfl⟩ ⟨Nat.zero_le _, Nat.zero_le _⟩ hl.1 (Nat.le_of_ble_eq_true rfl) rfl dX10_height_13 (fun H locs Z => ?_)
    refine lv_if_ne (tgt := 21) hx hb dX10_height_16 (by decide) (fun c2 => ?_) (fun c2 => ?_)
    · have h := dw_ifF c2 h
      refine lv_aload_n hx hb dX10_height_21 rfl (lv_at hl 0 rfl) ?_
      refine dw_g10_0 (t := 143) C0 Z dw_kc142 tw_fX10_7 rfl dX10_height_22 ?_
      refine lv_bipush (v := (20 : Int32)) hx hb dX10_height_25 (by decide) ?_
      refine lv_iload_n hx hb dX10_height_27 rfl (lv_at hl 1 rfl) ?_
      refine lv_iadd hx hb dX10_height_28 ?_
      refine lv_iload_n hx hb dX10_height_29 rfl (lv_at hl 2 rfl) ?_
      obtain ⟨g3, h⟩ := dw_gdS h
      refine dw_ast C0 Z dw_hA dw_kc143 dw_lc143 g3 dX10_height_30 (fun μ4 eμ4 H locs Z => ?_)
      have h := dw_nmS eμ4 h
      refine lv_iconst (v := (1 : Int32)) hx hb dX10_height_31 (by decide) ?_
      obtain ⟨rfl, rfl⟩ := dw_s2 h
      exact dw_iret C0 Z hr hlk dX10_height_32
    · have h := dw_ifT c2 h
      refine lv_iconst (v := (-1 : Int32)) hx hb dX10_height_19 (by decide) ?_
      obtain ⟨rfl, rfl⟩ := dw_s2 h
      exact dw_iret C0 Z hr hlk dX10_height_20

def fX10_soil (μ : dw_M) (a1 : Int32) (a2 : Int32) : Option (Int32 × dw_M) :=
  if (fX10_isPlace μ a1) = 0 then (
  some ((-1 : Int32), μ))
  else (
  if (fX10_in a2 (0 : Int32) (3 : Int32)) = 0 then (
  some ((-1 : Int32), μ))
  else (
  dw_gd (dw_ok ((60 : Int32) + a1) 800) (
  dw_nm (dw_st μ 143 ((60 : Int32) + a1).toNatClampNeg a2) (fun μ4 =>
  some ((1 : Int32), μ4)))))
set_option maxHeartbeats 4000000 in
set_option maxRecDepth 100000 in
theorem kX10_soil (l : Launch) (Γ : dw_G) (hj : dw_inj Γ) (μ : dw_M) (a1 : Int32) (a2 : Int32) {r : Int32} {ν : dw_M} (h : fX10_soil μ a1 a2 = some (r, ν)) : Met l yX10_soil (dw_ws yX10_soil cX10_soil 3 (some .int)) (dw_rm 2 43) (dw_P Γ ([.ref (dw_ad Γ 142), .int a1, .int a2] : List Value) μ) (dw_Qi Γ r ν) 0 0 (dw_A Γ) := by
  refine dw_met (own := RX10) rfl rfl (Nat.le_of_ble_eq_true rfl) hj ?_
  intro p e s m below meth c C0 hr hlk Z ls hl
  have hx := C0.1
  have hb := C0.2.1
  have hl : lv_has ls 3 [(0, .ref (dw_ad Γ 142)), (1, .int a1), (2, .int a2)] := hl
  suffices key : ∀ (H : Heap) (locs : List Loc), dw_Z Γ (dw_A Γ) s.heap μ H locs → W p l e (dw_rm 2 43) s m ([.ref (dw_ad Γ 142), .int a1, .int a2] : List Value).toArray below meth c H locs 0 0 (MQ below (dw_Qi Γ r ν) ([.ref (dw_ad Γ 142), .int a1, .int a2] : List Value).toArray s 0 0 (dw_A Γ)) (F0 m 0 ls []) from key _ _ Z
  clear Z
  intro H locs Z
  unfold fX10_soil at h
  refine lv_aload_n hx hb dX10_soil_0 rfl (lv_at hl 0 rfl) ?_
  refine lv_iload_n hx hb dX10_soil_1 rfl (lv_at hl 1 rfl) ?_
  refine dw_cVi C0 Z dw_hA (dw_lt dw_kc142 (by decide)) (dw_cz10 dw_kc142) rfl (As := [.int a1]) (rest := []) (kX10_isPlace l Γ hj μ a1 rfl) (dw_gV tw_lX10_33 tw_vX10_isPlace tw_eX10_isPlace tw_iX10 tw_kX10_isPlace) dw_hX10_isPlace ⟨Nat.le_of_ble_eq_true rfl, Nat.le_of_ble_eq_true rfl⟩ ⟨Nat.zero_le _, Nat.zero_le _⟩ hl.1 (Nat.le_of_ble_eq_true rfl) rfl dX10_soil_2 (fun H locs Z => ?_)
  refine lv_if_eq (tgt := 17) hx hb dX10_soil_5 (by decide) (fun c1 => ?_) (fun c1 => ?_)
  · have h := dw_ifT c1 h
    refine lv_iconst (v := (-1 : Int32)) hx hb dX10_soil_17 (by decide) ?_
    obtain ⟨rfl, rfl⟩ := dw_s2 h
    exact dw_iret C0 Z hr hlk dX10_soil_18
  · have h := dw_ifF c1 h
    refine lv_iload_n hx hb dX10_soil_8 rfl (lv_at hl 2 rfl) ?_
    refine lv_iconst (v := (0 : Int32)) hx hb dX10_soil_9 (by decide) ?_
    refine lv_iconst (v := (3 : Int32)) hx hb dX10_soil_10 (by decide) ?_
    refine dw_cSi C0 Z dw_hA (As := [.int a2, .int (0 : Int32), .int (3 : Int32)]) (rest := []) (kX10_in l Γ hj μ a2 (0 : Int32) (3 : Int32) rfl) (dw_gS tw_lX10_29 tw_sX10_in tw_iX10 tw_kX10_in) dw_hX10_in ⟨Nat.le_of_ble_eq_true rfl, Nat.le_of_ble_eq_true rfl⟩ ⟨Nat.zero_le _, Nat.zero_le _⟩ hl.1 (Nat.le_of_ble_eq_true rfl) rfl dX10_soil_11 (fun H locs Z => ?_)
    refine lv_if_ne (tgt := 19) hx hb dX10_soil_14 (by decide) (fun c2 => ?_) (fun c2 => ?_)
    · have h := dw_ifF c2 h
      refine lv_aload_n hx hb dX10_soil_19 rfl (lv_at hl 0 rfl) ?_
      refine dw_g10_0 (t := 143) C0 Z dw_kc142 tw_fX10_7 rfl dX10_soil_20 ?_
      refine lv_bipush (v := (60 : Int32)) hx hb dX10_soil_23 (by decide) ?_
      refine lv_iload_n hx hb dX10_soil_25 rfl (lv_at hl 1 rfl) ?_
      refine lv_iadd hx hb dX10_soil_26 ?_
      refine lv_iload_n hx hb dX10_soil_27 rfl (lv_at hl 2 rfl) ?_
      obtain ⟨g3, h⟩ := dw_gdS h
      refine dw_ast C0 Z dw_hA dw_kc143 dw_lc143 g3 dX10_soil_28 (fun μ4 eμ4 H locs Z => ?_)
      have h := dw_nmS eμ4 h
      refine lv_iconst (v := (1 : Int32)) hx hb dX10_soil_29 (by decide) ?_
      obtain ⟨rfl, rfl⟩ := dw_s2 h
      exact dw_iret C0 Z hr hlk dX10_soil_30
    · have h := dw_ifT c2 h
      refine lv_iconst (v := (-1 : Int32)) hx hb dX10_soil_17 (by decide) ?_
      obtain ⟨rfl, rfl⟩ := dw_s2 h
      exact dw_iret C0 Z hr hlk dX10_soil_18

def fX10_soils (μ : dw_M) (a1 : Int32) (a2 : Int32) (a3 : Int32) (a4 : Int32) (a5 : Int32) : Option (Int32 × dw_M) :=
  if (fX10_in a1 (0 : Int32) (3 : Int32)) = 0 then (
  some ((-1 : Int32), μ))
  else (
  if (fX10_in a2 (0 : Int32) (200 : Int32)) = 0 then (
  some ((-1 : Int32), μ))
  else (
  if (fX10_in a3 (0 : Int32) (100 : Int32)) = 0 then (
  some ((-1 : Int32), μ))
  else (
  if (fX10_in a4 (0 : Int32) (1000 : Int32)) = 0 then (
  some ((-1 : Int32), μ))
  else (
  if (fX10_in a5 (0 : Int32) (40 : Int32)) = 0 then (
  some ((-1 : Int32), μ))
  else (
  dw_gd (dw_ok ((300 : Int32) + ((4 : Int32) * a1)) 800) (
  dw_nm (dw_st μ 143 ((300 : Int32) + ((4 : Int32) * a1)).toNatClampNeg a2) (fun μ7 =>
  dw_gd (dw_ok (((300 : Int32) + ((4 : Int32) * a1)) + (1 : Int32)) 800) (
  dw_nm (dw_st μ7 143 (((300 : Int32) + ((4 : Int32) * a1)) + (1 : Int32)).toNatClampNeg a3) (fun μ9 =>
  dw_gd (dw_ok (((300 : Int32) + ((4 : Int32) * a1)) + (2 : Int32)) 800) (
  dw_nm (dw_st μ9 143 (((300 : Int32) + ((4 : Int32) * a1)) + (2 : Int32)).toNatClampNeg a4) (fun μ11 =>
  dw_gd (dw_ok (((300 : Int32) + ((4 : Int32) * a1)) + (3 : Int32)) 800) (
  dw_nm (dw_st μ11 143 (((300 : Int32) + ((4 : Int32) * a1)) + (3 : Int32)).toNatClampNeg a5) (fun μ13 =>
  some ((1 : Int32), μ13))))))))))))))
set_option maxHeartbeats 4000000 in
set_option maxRecDepth 100000 in
theorem kX10_soils (l : Launch) (Γ : dw_G) (hj : dw_inj Γ) (μ : dw_M) (a1 : Int32) (a2 : Int32) (a3 : Int32) (a4 : Int32) (a5 : Int32) {r : Int32} {ν : dw_M} (h : fX10_soils μ a1 a2 a3 a4 a5 = some (r, ν)) : Met l yX10_soils (dw_ws yX10_soils cX10_soils 6 (some .int)) (dw_rm 1 22) (dw_P Γ ([.ref (dw_ad Γ 142), .int a1, .int a2, .int a3, .int a4, .int a5] : List Value) μ) (dw_Qi Γ r ν) 0 0 (dw_A Γ) := by
  refine dw_met (own := RX10) rfl rfl (Nat.le_of_ble_eq_true rfl) hj ?_
  intro p e s m below meth c C0 hr hlk Z ls hl
  have hx := C0.1
  have hb := C0.2.1
  have hl : lv_has ls 6 [(0, .ref (dw_ad Γ 142)), (1, .int a1), (2, .int a2), (3, .int a3), (4, .int a4), (5, .int a5)] := hl
  suffices key : ∀ (H : Heap) (locs : List Loc), dw_Z Γ (dw_A Γ) s.heap μ H locs → W p l e (dw_rm 1 22) s m ([.ref (dw_ad Γ 142), .int a1, .int a2, .int a3, .int a4, .int a5] : List Value).toArray below meth c H locs 0 0 (MQ below (dw_Qi Γ r ν) ([.ref (dw_ad Γ 142), .int a1, .int a2, .int a3, .int a4, .int a5] : List Value).toArray s 0 0 (dw_A Γ)) (F0 m 0 ls []) from key _ _ Z
  clear Z
  intro H locs Z
  unfold fX10_soils at h
  refine lv_iload_n hx hb dX10_soils_0 rfl (lv_at hl 1 rfl) ?_
  refine lv_iconst (v := (0 : Int32)) hx hb dX10_soils_1 (by decide) ?_
  refine lv_iconst (v := (3 : Int32)) hx hb dX10_soils_2 (by decide) ?_
  refine dw_cSi C0 Z dw_hA (As := [.int a1, .int (0 : Int32), .int (3 : Int32)]) (rest := []) (kX10_in l Γ hj μ a1 (0 : Int32) (3 : Int32) rfl) (dw_gS tw_lX10_29 tw_sX10_in tw_iX10 tw_kX10_in) dw_hX10_in ⟨Nat.le_of_ble_eq_true rfl, Nat.le_of_ble_eq_true rfl⟩ ⟨Nat.zero_le _, Nat.zero_le _⟩ hl.1 (Nat.le_of_ble_eq_true rfl) rfl dX10_soils_3 (fun H locs Z => ?_)
  refine lv_if_eq (tgt := 53) hx hb dX10_soils_6 (by decide) (fun c1 => ?_) (fun c1 => ?_)
  · have h := dw_ifT c1 h
    refine lv_iconst (v := (-1 : Int32)) hx hb dX10_soils_53 (by decide) ?_
    obtain ⟨rfl, rfl⟩ := dw_s2 h
    exact dw_iret C0 Z hr hlk dX10_soils_54
  · have h := dw_ifF c1 h
    refine lv_iload_n hx hb dX10_soils_9 rfl (lv_at hl 2 rfl) ?_
    refine lv_iconst (v := (0 : Int32)) hx hb dX10_soils_10 (by decide) ?_
    refine lv_sipush (v := (200 : Int32)) hx hb dX10_soils_11 (by decide) ?_
    refine dw_cSi C0 Z dw_hA (As := [.int a2, .int (0 : Int32), .int (200 : Int32)]) (rest := []) (kX10_in l Γ hj μ a2 (0 : Int32) (200 : Int32) rfl) (dw_gS tw_lX10_29 tw_sX10_in tw_iX10 tw_kX10_in) dw_hX10_in ⟨Nat.le_of_ble_eq_true rfl, Nat.le_of_ble_eq_true rfl⟩ ⟨Nat.zero_le _, Nat.zero_le _⟩ hl.1 (Nat.le_of_ble_eq_true rfl) rfl dX10_soils_14 (fun H locs Z => ?_)
    refine lv_if_eq (tgt := 53) hx hb dX10_soils_17 (by decide) (fun c2 => ?_) (fun c2 => ?_)
    · have h := dw_ifT c2 h
      refine lv_iconst (v := (-1 : Int32)) hx hb dX10_soils_53 (by decide) ?_
      obtain ⟨rfl, rfl⟩ := dw_s2 h
      exact dw_iret C0 Z hr hlk dX10_soils_54
    · have h := dw_ifF c2 h
      refine lv_iload_n hx hb dX10_soils_20 rfl (lv_at hl 3 rfl) ?_
      refine lv_iconst (v := (0 : Int32)) hx hb dX10_soils_21 (by decide) ?_
      refine lv_bipush (v := (100 : Int32)) hx hb dX10_soils_22 (by decide) ?_
      refine dw_cSi C0 Z dw_hA (As := [.int a3, .int (0 : Int32), .int (100 : Int32)]) (rest := []) (kX10_in l Γ hj μ a3 (0 : Int32) (100 : Int32) rfl) (dw_gS tw_lX10_29 tw_sX10_in tw_iX10 tw_kX10_in) dw_hX10_in ⟨Nat.le_of_ble_eq_true rfl, Nat.le_of_ble_eq_true rfl⟩ ⟨Nat.zero_le _, Nat.zero_le _⟩ hl.1 (Nat.le_of_ble_eq_true rfl) rfl dX10_soils_24 (fun H locs Z => ?_)
      refine lv_if_eq (tgt := 53) hx hb dX10_soils_27 (by decide) (fun c3 => ?_) (fun c3 => ?_)
      · have h := dw_ifT c3 h
        refine lv_iconst (v := (-1 : Int32)) hx hb dX10_soils_53 (by decide) ?_
        obtain ⟨rfl, rfl⟩ := dw_s2 h
        exact dw_iret C0 Z hr hlk dX10_soils_54
      · have h := dw_ifF c3 h
        refine lv_iload hx hb dX10_soils_30 (lv_at hl 4 rfl) ?_
        refine lv_iconst (v := (0 : Int32)) hx hb dX10_soils_32 (by decide) ?_
        refine lv_sipush (v := (1000 : Int32)) hx hb dX10_soils_33 (by decide) ?_
        refine dw_cSi C0 Z dw_hA (As := [.int a4, .int (0 : Int32), .int (1000 : Int32)]) (rest := []) (kX10_in l Γ hj μ a4 (0 : Int32) (1000 : Int32) rfl) (dw_gS tw_lX10_29 tw_sX10_in tw_iX10 tw_kX10_in) dw_hX10_in ⟨Nat.le_of_ble_eq_true rfl, Nat.le_of_ble_eq_true rfl⟩ ⟨Nat.zero_le _, Nat.zero_le _⟩ hl.1 (Nat.le_of_ble_eq_true rfl) rfl dX10_soils_36 (fun H locs Z => ?_)
        refine lv_if_eq (tgt := 53) hx hb dX10_soils_39 (by decide) (fun c4 => ?_) (fun c4 => ?_)
        · have h := dw_ifT c4 h
          refine lv_iconst (v := (-1 : Int32)) hx hb dX10_soils_53 (by decide) ?_
          obtain ⟨rfl, rfl⟩ := dw_s2 h
          exact dw_iret C0 Z hr hlk dX10_soils_54
        · have h := dw_ifF c4 h
          refine lv_iload hx hb dX10_soils_42 (lv_at hl 5 rfl) ?_
          refine lv_iconst (v := (0 : Int32)) hx hb dX10_soils_44 (by decide) ?_
          refine lv_bipush (v := (40 : Int32)) hx hb dX10_soils_45 (by decide) ?_
          refine dw_cSi C0 Z dw_hA (As := [.int a5, .int (0 : Int32), .int (40 : Int32)]) (rest := []) (kX10_in l Γ hj μ a5 (0 : Int32) (40 : Int32) rfl) (dw_gS tw_lX10_29 tw_sX10_in tw_iX10 tw_kX10_in) dw_hX10_in ⟨Nat.le_of_ble_eq_true rfl, Nat.le_of_ble_eq_true rfl⟩ ⟨Nat.zero_le _, Nat.zero_le _⟩ hl.1 (Nat.le_of_ble_eq_true rfl) rfl dX10_soils_47 (fun H locs Z => ?_)
          refine lv_if_ne (tgt := 55) hx hb dX10_soils_50 (by decide) (fun c5 => ?_) (fun c5 => ?_)
          · have h := dw_ifF c5 h
            refine lv_aload_n hx hb dX10_soils_55 rfl (lv_at hl 0 rfl) ?_
            refine dw_g10_0 (t := 143) C0 Z dw_kc142 tw_fX10_7 rfl dX10_soils_56 ?_
            refine lv_sipush (v := (300 : Int32)) hx hb dX10_soils_59 (by decide) ?_
            refine lv_iconst (v := (4 : Int32)) hx hb dX10_soils_62 (by decide) ?_
            refine lv_iload_n hx hb dX10_soils_63 rfl (lv_at hl 1 rfl) ?_
            refine lv_imul hx hb dX10_soils_64 ?_
            refine lv_iadd hx hb dX10_soils_65 ?_
            refine lv_iload_n hx hb dX10_soils_66 rfl (lv_at hl 2 rfl) ?_
            obtain ⟨g6, h⟩ := dw_gdS h
            refine dw_ast C0 Z dw_hA dw_kc143 dw_lc143 g6 dX10_soils_67 (fun μ7 eμ7 H locs Z => ?_)
            have h := dw_nmS eμ7 h
            refine lv_aload_n hx hb dX10_soils_68 rfl (lv_at hl 0 rfl) ?_
            refine dw_g10_0 (t := 143) C0 Z dw_kc142 tw_fX10_7 rfl dX10_soils_69 ?_
            refine lv_sipush (v := (300 : Int32)) hx hb dX10_soils_72 (by decide) ?_
            refine lv_iconst (v := (4 : Int32)) hx hb dX10_soils_75 (by decide) ?_
            refine lv_iload_n hx hb dX10_soils_76 rfl (lv_at hl 1 rfl) ?_
            refine lv_imul hx hb dX10_soils_77 ?_
            refine lv_iadd hx hb dX10_soils_78 ?_
            refine lv_iconst (v := (1 : Int32)) hx hb dX10_soils_79 (by decide) ?_
            refine lv_iadd hx hb dX10_soils_80 ?_
            refine lv_iload_n hx hb dX10_soils_81 rfl (lv_at hl 3 rfl) ?_
            obtain ⟨g8, h⟩ := dw_gdS h
            refine dw_ast C0 Z dw_hA dw_kc143 dw_lc143 g8 dX10_soils_82 (fun μ9 eμ9 H locs Z => ?_)
            have h := dw_nmS eμ9 h
            refine lv_aload_n hx hb dX10_soils_83 rfl (lv_at hl 0 rfl) ?_
            refine dw_g10_0 (t := 143) C0 Z dw_kc142 tw_fX10_7 rfl dX10_soils_84 ?_
            refine lv_sipush (v := (300 : Int32)) hx hb dX10_soils_87 (by decide) ?_
            refine lv_iconst (v := (4 : Int32)) hx hb dX10_soils_90 (by decide) ?_
            refine lv_iload_n hx hb dX10_soils_91 rfl (lv_at hl 1 rfl) ?_
            refine lv_imul hx hb dX10_soils_92 ?_
            refine lv_iadd hx hb dX10_soils_93 ?_
            refine lv_iconst (v := (2 : Int32)) hx hb dX10_soils_94 (by decide) ?_
            refine lv_iadd hx hb dX10_soils_95 ?_
            refine lv_iload hx hb dX10_soils_96 (lv_at hl 4 rfl) ?_
            obtain ⟨g10, h⟩ := dw_gdS h
            refine dw_ast C0 Z dw_hA dw_kc143 dw_lc143 g10 dX10_soils_98 (fun μ11 eμ11 H locs Z => ?_)
            have h := dw_nmS eμ11 h
            refine lv_aload_n hx hb dX10_soils_99 rfl (lv_at hl 0 rfl) ?_
            refine dw_g10_0 (t := 143) C0 Z dw_kc142 tw_fX10_7 rfl dX10_soils_100 ?_
            refine lv_sipush (v := (300 : Int32)) hx hb dX10_soils_103 (by decide) ?_
            refine lv_iconst (v := (4 : Int32)) hx hb dX10_soils_106 (by decide) ?_
            refine lv_iload_n hx hb dX10_soils_107 rfl (lv_at hl 1 rfl) ?_
            refine lv_imul hx hb dX10_soils_108 ?_
            refine lv_iadd hx hb dX10_soils_109 ?_
            refine lv_iconst (v := (3 : Int32)) hx hb dX10_soils_110 (by decide) ?_
            refine lv_iadd hx hb dX10_soils_111 ?_
            refine lv_iload hx hb dX10_soils_112 (lv_at hl 5 rfl) ?_
            obtain ⟨g12, h⟩ := dw_gdS h
            refine dw_ast C0 Z dw_hA dw_kc143 dw_lc143 g12 dX10_soils_114 (fun μ13 eμ13 H locs Z => ?_)
            have h := dw_nmS eμ13 h
            refine lv_iconst (v := (1 : Int32)) hx hb dX10_soils_115 (by decide) ?_
            obtain ⟨rfl, rfl⟩ := dw_s2 h
            exact dw_iret C0 Z hr hlk dX10_soils_116
          · have h := dw_ifT c5 h
            refine lv_iconst (v := (-1 : Int32)) hx hb dX10_soils_53 (by decide) ?_
            obtain ⟨rfl, rfl⟩ := dw_s2 h
            exact dw_iret C0 Z hr hlk dX10_soils_54
