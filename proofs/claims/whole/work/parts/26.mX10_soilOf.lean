def fX10_soilOf (μ : dw_M) (a1 : Int32) (a2 : Int32) : Option (Int32) :=
  dw_gd (dw_ok ((60 : Int32) + a1) 800) (
  dw_gd (dw_ok (((300 : Int32) + ((4 : Int32) * (μ.1 143 ((60 : Int32) + a1).toNatClampNeg))) + a2) 800) (
  some (μ.1 143 (((300 : Int32) + ((4 : Int32) * (μ.1 143 ((60 : Int32) + a1).toNatClampNeg))) + a2).toNatClampNeg)))
set_option maxHeartbeats 4000000 in
set_option maxRecDepth 100000 in
theorem kX10_soilOf (l : Launch) (Γ : dw_G) (hj : dw_inj Γ) (μ : dw_M) (a1 : Int32) (a2 : Int32) {r : Int32} (h : fX10_soilOf μ a1 a2 = some r) : Met l yX10_soilOf (dw_ws yX10_soilOf cX10_soilOf 3 (some .int)) (dw_rm 0 0) (dw_P Γ ([.ref (dw_ad Γ 142), .int a1, .int a2] : List Value) μ) (dw_Qi Γ r μ) 0 0 (dw_A Γ) := by
  refine dw_met (own := RX10) rfl rfl (Nat.le_of_ble_eq_true rfl) hj ?_
  intro p e s m below meth c C0 hr hlk Z ls hl
  have hx := C0.1
  have hb := C0.2.1
  have hl : lv_has ls 3 [(0, .ref (dw_ad Γ 142)), (1, .int a1), (2, .int a2)] := hl
  suffices key : ∀ (H : Heap) (locs : List Loc), dw_Z Γ (dw_A Γ) s.heap μ H locs → W p l e (dw_rm 0 0) s m ([.ref (dw_ad Γ 142), .int a1, .int a2] : List Value).toArray below meth c H locs 0 0 (MQ below (dw_Qi Γ r μ) ([.ref (dw_ad Γ 142), .int a1, .int a2] : List Value).toArray s 0 0 (dw_A Γ)) (F0 m 0 ls []) from key _ _ Z
  clear Z
  intro H locs Z
  unfold fX10_soilOf at h
  refine lv_aload_n hx hb dX10_soilOf_0 rfl (lv_at hl 0 rfl) ?_
  refine dw_g10_0 (t := 143) C0 Z dw_kc142 tw_fX10_7 rfl dX10_soilOf_1 ?_
  refine lv_sipush (v := (300 : Int32)) hx hb dX10_soilOf_4 (by decide) ?_
  refine lv_iconst (v := (4 : Int32)) hx hb dX10_soilOf_7 (by decide) ?_
  refine lv_aload_n hx hb dX10_soilOf_8 rfl (lv_at hl 0 rfl) ?_
  refine dw_g10_0 (t := 143) C0 Z dw_kc142 tw_fX10_7 rfl dX10_soilOf_9 ?_
  refine lv_bipush (v := (60 : Int32)) hx hb dX10_soilOf_12 (by decide) ?_
  refine lv_iload_n hx hb dX10_soilOf_14 rfl (lv_at hl 1 rfl) ?_
  refine lv_iadd hx hb dX10_soilOf_15 ?_
  obtain ⟨g1, h⟩ := dw_gdS h
  refine dw_ald C0 Z dw_kc143 dw_lc143 g1 dX10_soilOf_16 ?_
  refine lv_imul hx hb dX10_soilOf_17 ?_
  refine lv_iadd hx hb dX10_soilOf_18 ?_
  refine lv_iload_n hx hb dX10_soilOf_19 rfl (lv_at hl 2 rfl) ?_
  refine lv_iadd hx hb dX10_soilOf_20 ?_
  obtain ⟨g2, h⟩ := dw_gdS h
  refine dw_ald C0 Z dw_kc143 dw_lc143 g2 dX10_soilOf_21 ?_
  obtain rfl := dw_s1 h
  exact dw_iret C0 Z hr hlk dX10_soilOf_22

def fX10_ditch (μ : dw_M) (a1 : Int32) (a2 : Int32) : Option (Int32 × dw_M) :=
  if (fX10_in a1 (0 : Int32) (3 : Int32)) = 0 then (
  some ((-1 : Int32), μ))
  else (
  if (fX10_in a2 (0 : Int32) (2000 : Int32)) = 0 then (
  some ((-1 : Int32), μ))
  else (
  dw_gd (dw_ok ((320 : Int32) + a1) 800) (
  dw_nm (dw_st μ 143 ((320 : Int32) + a1).toNatClampNeg a2) (fun μ4 =>
  some ((1 : Int32), μ4)))))
set_option maxHeartbeats 4000000 in
set_option maxRecDepth 100000 in
theorem kX10_ditch (l : Launch) (Γ : dw_G) (hj : dw_inj Γ) (μ : dw_M) (a1 : Int32) (a2 : Int32) {r : Int32} {ν : dw_M} (h : fX10_ditch μ a1 a2 = some (r, ν)) : Met l yX10_ditch (dw_ws yX10_ditch cX10_ditch 3 (some .int)) (dw_rm 1 22) (dw_P Γ ([.ref (dw_ad Γ 142), .int a1, .int a2] : List Value) μ) (dw_Qi Γ r ν) 0 0 (dw_A Γ) := by
  refine dw_met (own := RX10) rfl rfl (Nat.le_of_ble_eq_true rfl) hj ?_
  intro p e s m below meth c C0 hr hlk Z ls hl
  have hx := C0.1
  have hb := C0.2.1
  have hl : lv_has ls 3 [(0, .ref (dw_ad Γ 142)), (1, .int a1), (2, .int a2)] := hl
  suffices key : ∀ (H : Heap) (locs : List Loc), dw_Z Γ (dw_A Γ) s.heap μ H locs → W p l e (dw_rm 1 22) s m ([.ref (dw_ad Γ 142), .int a1, .int a2] : List Value).toArray below meth c H locs 0 0 (MQ below (dw_Qi Γ r ν) ([.ref (dw_ad Γ 142), .int a1, .int a2] : List Value).toArray s 0 0 (dw_A Γ)) (F0 m 0 ls []) from key _ _ Z
  clear Z
  intro H locs Z
  unfold fX10_ditch at h
  refine lv_iload_n hx hb dX10_ditch_0 rfl (lv_at hl 1 rfl) ?_
  refine lv_iconst (v := (0 : Int32)) hx hb dX10_ditch_1 (by decide) ?_
  refine lv_iconst (v := (3 : Int32)) hx hb dX10_ditch_2 (by decide) ?_
  refine dw_cSi C0 Z dw_hA (As := [.int a1, .int (0 : Int32), .int (3 : Int32)]) (rest := []) (kX10_in l Γ hj μ a1 (0 : Int32) (3 : Int32) rfl) (dw_gS tw_lX10_29 tw_sX10_in tw_iX10 tw_kX10_in) dw_hX10_in ⟨Nat.le_of_ble_eq_true rfl, Nat.le_of_ble_eq_true rfl⟩ ⟨Nat.zero_le _, Nat.zero_le _⟩ hl.1 (Nat.le_of_ble_eq_true rfl) rfl dX10_ditch_3 (fun H locs Z => ?_)
  refine lv_if_eq (tgt := 20) hx hb dX10_ditch_6 (by decide) (fun c1 => ?_) (fun c1 => ?_)
  · have h := dw_ifT c1 h
    refine lv_iconst (v := (-1 : Int32)) hx hb dX10_ditch_20 (by decide) ?_
    obtain ⟨rfl, rfl⟩ := dw_s2 h
    exact dw_iret C0 Z hr hlk dX10_ditch_21
  · have h := dw_ifF c1 h
    refine lv_iload_n hx hb dX10_ditch_9 rfl (lv_at hl 2 rfl) ?_
    refine lv_iconst (v := (0 : Int32)) hx hb dX10_ditch_10 (by decide) ?_
    refine lv_sipush (v := (2000 : Int32)) hx hb dX10_ditch_11 (by decide) ?_
    refine dw_cSi C0 Z dw_hA (As := [.int a2, .int (0 : Int32), .int (2000 : Int32)]) (rest := []) (kX10_in l Γ hj μ a2 (0 : Int32) (2000 : Int32) rfl) (dw_gS tw_lX10_29 tw_sX10_in tw_iX10 tw_kX10_in) dw_hX10_in ⟨Nat.le_of_ble_eq_true rfl, Nat.le_of_ble_eq_true rfl⟩ ⟨Nat.zero_le _, Nat.zero_le _⟩ hl.1 (Nat.le_of_ble_eq_true rfl) rfl dX10_ditch_14 (fun H locs Z => ?_)
    refine lv_if_ne (tgt := 22) hx hb dX10_ditch_17 (by decide) (fun c2 => ?_) (fun c2 => ?_)
    · have h := dw_ifF c2 h
      refine lv_aload_n hx hb dX10_ditch_22 rfl (lv_at hl 0 rfl) ?_
      refine dw_g10_0 (t := 143) C0 Z dw_kc142 tw_fX10_7 rfl dX10_ditch_23 ?_
      refine lv_sipush (v := (320 : Int32)) hx hb dX10_ditch_26 (by decide) ?_
      refine lv_iload_n hx hb dX10_ditch_29 rfl (lv_at hl 1 rfl) ?_
      refine lv_iadd hx hb dX10_ditch_30 ?_
      refine lv_iload_n hx hb dX10_ditch_31 rfl (lv_at hl 2 rfl) ?_
      obtain ⟨g3, h⟩ := dw_gdS h
      refine dw_ast C0 Z dw_hA dw_kc143 dw_lc143 g3 dX10_ditch_32 (fun μ4 eμ4 H locs Z => ?_)
      have h := dw_nmS eμ4 h
      refine lv_iconst (v := (1 : Int32)) hx hb dX10_ditch_33 (by decide) ?_
      obtain ⟨rfl, rfl⟩ := dw_s2 h
      exact dw_iret C0 Z hr hlk dX10_ditch_34
    · have h := dw_ifT c2 h
      refine lv_iconst (v := (-1 : Int32)) hx hb dX10_ditch_20 (by decide) ?_
      obtain ⟨rfl, rfl⟩ := dw_s2 h
      exact dw_iret C0 Z hr hlk dX10_ditch_21

def fX10_trench (μ : dw_M) (a1 : Int32) (a2 : Int32) (a3 : Int32) (a4 : Int32) : Option (Int32 × dw_M) :=
  if (fX10_isPlace μ a1) = 0 then (
  some ((-1 : Int32), μ))
  else (
  if (fX10_isPlace μ a2) = 0 then (
  some ((-1 : Int32), μ))
  else (
  if a1 = a2 then (
  some ((-1 : Int32), μ))
  else (
  dw_bd (fX10_rowOf μ a1) (fun r5 =>
  dw_bd (fX10_rowOf μ a2) (fun r7 =>
  dw_jm (if (fX10_in a3 (0 : Int32) (2000 : Int32)) = 0 then (
  some ((-1 : Int32), μ))
  else (
  if (fX10_in a4 (1 : Int32) (50 : Int32)) = 0 then (
  some ((-1 : Int32), μ))
  else (
  dw_bd (fX10_rowOf μ a1) (fun r11 =>
  dw_bd (fX10_rowOf μ a2) (fun r13 =>
  dw_bd (fX10_columnOf μ a1) (fun r15 =>
  dw_bd (fX10_columnOf μ a2) (fun r17 =>
  dw_nm (((fX10_size (r11 - r13)) + (fX10_size (r15 - r17))) + (1 : Int32)) (fun x18 =>
  dw_nm (dw_st μ 143 (2 : Int32).toNatClampNeg x18) (fun μ19 =>
  dw_nm (dw_st μ19 143 (3 : Int32).toNatClampNeg a1) (fun μ20 =>
  dw_nm (dw_st μ20 143 (4 : Int32).toNatClampNeg a2) (fun μ21 =>
  dw_nm (dw_st μ21 143 (5 : Int32).toNatClampNeg a3) (fun μ22 =>
  dw_nm (dw_st μ22 143 (6 : Int32).toNatClampNeg a4) (fun μ23 =>
  some (x18, μ23)))))))))))))) (fun k47 =>
  if r5 = r7 then (
  k47)
  else (
  dw_bd (fX10_columnOf μ a1) (fun r26 =>
  dw_bd (fX10_columnOf μ a2) (fun r28 =>
  if r26 = r28 then (
  k47)
  else (
  some ((-1 : Int32), μ)))))))))))
set_option maxHeartbeats 4000000 in
set_option maxRecDepth 100000 in
theorem kX10_trench (l : Launch) (Γ : dw_G) (hj : dw_inj Γ) (μ : dw_M) (a1 : Int32) (a2 : Int32) (a3 : Int32) (a4 : Int32) {r : Int32} {ν : dw_M} (h : fX10_trench μ a1 a2 a3 a4 = some (r, ν)) : Met l yX10_trench (dw_ws yX10_trench cX10_trench 6 (some .int)) (dw_rm 2 43) (dw_P Γ ([.ref (dw_ad Γ 142), .int a1, .int a2, .int a3, .int a4] : List Value) μ) (dw_Qi Γ r ν) 0 0 (dw_A Γ) := by
  refine dw_met (own := RX10) rfl rfl (Nat.le_of_ble_eq_true rfl) hj ?_
  intro p e s m below meth c C0 hr hlk Z ls hl
  have hx := C0.1
  have hb := C0.2.1
  have hl : lv_has ls 6 [(0, .ref (dw_ad Γ 142)), (1, .int a1), (2, .int a2), (3, .int a3), (4, .int a4)] := hl
  suffices key : ∀ (H : Heap) (locs : List Loc), dw_Z Γ (dw_A Γ) s.heap μ H locs → W p l e (dw_rm 2 43) s m ([.ref (dw_ad Γ 142), .int a1, .int a2, .int a3, .int a4] : List Value).toArray below meth c H locs 0 0 (MQ below (dw_Qi Γ r ν) ([.ref (dw_ad Γ 142), .int a1, .int a2, .int a3, .int a4] : List Value).toArray s 0 0 (dw_A Γ)) (F0 m 0 ls []) from key _ _ Z
  clear Z
  intro H locs Z
  unfold fX10_trench at h
  refine lv_aload_n hx hb dX10_trench_0 rfl (lv_at hl 0 rfl) ?_
  refine lv_iload_n hx hb dX10_trench_1 rfl (lv_at hl 1 rfl) ?_
  refine dw_cVi C0 Z dw_hA (dw_lt dw_kc142 (by decide)) (dw_cz10 dw_kc142) rfl (As := [.int a1]) (rest := []) (kX10_isPlace l Γ hj μ a1 rfl) (dw_gV tw_lX10_33 tw_vX10_isPlace tw_eX10_isPlace tw_iX10 tw_kX10_isPlace) dw_hX10_isPlace ⟨Nat.le_of_ble_eq_true rfl, Nat.le_of_ble_eq_true rfl⟩ ⟨Nat.zero_le _, Nat.zero_le _⟩ hl.1 (Nat.le_of_ble_eq_true rfl) rfl dX10_trench_2 (fun H locs Z => ?_)
  refine lv_if_eq (tgt := 69) hx hb dX10_trench_5 (by decide) (fun c1 => ?_) (fun c1 => ?_)
  · have h := dw_ifT c1 h
    refine lv_iconst (v := (-1 : Int32)) hx hb dX10_trench_69 (by decide) ?_
    obtain ⟨rfl, rfl⟩ := dw_s2 h
    exact dw_iret C0 Z hr hlk dX10_trench_70
  · have h := dw_ifF c1 h
    refine lv_aload_n hx hb dX10_trench_8 rfl (lv_at hl 0 rfl) ?_
    refine lv_iload_n hx hb dX10_trench_9 rfl (lv_at hl 2 rfl) ?_
    refine dw_cVi C0 Z dw_hA (dw_lt dw_kc142 (by decide)) (dw_cz10 dw_kc142) rfl (As := [.int a2]) (rest := []) (kX10_isPlace l Γ hj μ a2 rfl) (dw_gV tw_lX10_33 tw_vX10_isPlace tw_eX10_isPlace tw_iX10 tw_kX10_isPlace) dw_hX10_isPlace ⟨Nat.le_of_ble_eq_true rfl, Nat.le_of_ble_eq_true rfl⟩ ⟨Nat.zero_le _, Nat.zero_le _⟩ hl.1 (Nat.le_of_ble_eq_true rfl) rfl dX10_trench_10 (fun H locs Z => ?_)
    refine lv_if_eq (tgt := 69) hx hb dX10_trench_13 (by decide) (fun c2 => ?_) (fun c2 => ?_)
    · have h := dw_ifT c2 h
      refine lv_iconst (v := (-1 : Int32)) hx hb dX10_trench_69 (by decide) ?_
      obtain ⟨rfl, rfl⟩ := dw_s2 h
      exact dw_iret C0 Z hr hlk dX10_trench_70
    · have h := dw_ifF c2 h
      refine lv_iload_n hx hb dX10_trench_16 rfl (lv_at hl 1 rfl) ?_
      refine lv_iload_n hx hb dX10_trench_17 rfl (lv_at hl 2 rfl) ?_
      refine lv_icmp_eq (tgt := 69) hx hb dX10_trench_18 (by decide) (fun c3 => ?_) (fun c3 => ?_)
      · have h := dw_ifT c3 h
        refine lv_iconst (v := (-1 : Int32)) hx hb dX10_trench_69 (by decide) ?_
        obtain ⟨rfl, rfl⟩ := dw_s2 h
        exact dw_iret C0 Z hr hlk dX10_trench_70
      · have h := dw_ifF c3 h
        refine lv_aload_n hx hb dX10_trench_21 rfl (lv_at hl 0 rfl) ?_
        refine lv_iload_n hx hb dX10_trench_22 rfl (lv_at hl 1 rfl) ?_
        obtain ⟨r5, hc4, h⟩ := dw_bdS h
        refine dw_cVi C0 Z dw_hA (dw_lt dw_kc142 (by decide)) (dw_cz10 dw_kc142) rfl (As := [.int a1]) (rest := []) (kX10_rowOf l Γ hj μ a1 hc4) (dw_gV tw_lX10_37 tw_vX10_rowOf tw_eX10_rowOf tw_iX10 tw_kX10_rowOf) dw_hX10_rowOf ⟨Nat.le_of_ble_eq_true rfl, Nat.le_of_ble_eq_true rfl⟩ ⟨Nat.zero_le _, Nat.zero_le _⟩ hl.1 (Nat.le_of_ble_eq_true rfl) rfl dX10_trench_23 (fun H locs Z => ?_)
        refine lv_aload_n hx hb dX10_trench_26 rfl (lv_at hl 0 rfl) ?_
        refine lv_iload_n hx hb dX10_trench_27 rfl (lv_at hl 2 rfl) ?_
        obtain ⟨r7, hc6, h⟩ := dw_bdS h
        refine dw_cVi C0 Z dw_hA (dw_lt dw_kc142 (by decide)) (dw_cz10 dw_kc142) rfl (As := [.int a2]) (rest := [.int r5]) (kX10_rowOf l Γ hj μ a2 hc6) (dw_gV tw_lX10_37 tw_vX10_rowOf tw_eX10_rowOf tw_iX10 tw_kX10_rowOf) dw_hX10_rowOf ⟨Nat.le_of_ble_eq_true rfl, Nat.le_of_ble_eq_true rfl⟩ ⟨Nat.zero_le _, Nat.zero_le _⟩ hl.1 (Nat.le_of_ble_eq_true rfl) rfl dX10_trench_28 (fun H locs Z => ?_)
        obtain ⟨k47, ek47, h⟩ := dw_jnS h
        have J47 : ∀ (H : Heap) (locs : List Loc) (ls : Array Slot), dw_Z Γ (dw_A Γ) s.heap μ H locs → lv_has ls 6 [(0, .ref (dw_ad Γ 142)), (1, .int a1), (2, .int a2), (3, .int a3), (4, .int a4)] → k47 = some (r, ν) → W p l e (dw_rm 2 43) s m ([.ref (dw_ad Γ 142), .int a1, .int a2, .int a3, .int a4] : List Value).toArray below meth c H locs 0 0 (MQ below (dw_Qi Γ r ν) ([.ref (dw_ad Γ 142), .int a1, .int a2, .int a3, .int a4] : List Value).toArray s 0 0 (dw_A Γ)) (F0 m 47 ls []) := by
          clear h
          intro  H locs ls Z hl h
          rw [ek47] at h
          refine lv_iload_n hx hb dX10_trench_47 rfl (lv_at hl 3 rfl) ?_
          refine lv_iconst (v := (0 : Int32)) hx hb dX10_trench_48 (by decide) ?_
          refine lv_sipush (v := (2000 : Int32)) hx hb dX10_trench_49 (by decide) ?_
          refine dw_cSi C0 Z dw_hA (As := [.int a3, .int (0 : Int32), .int (2000 : Int32)]) (rest := []) (kX10_in l Γ hj μ a3 (0 : Int32) (2000 : Int32) rfl) (dw_gS tw_lX10_29 tw_sX10_in tw_iX10 tw_kX10_in) dw_hX10_in ⟨Nat.le_of_ble_eq_true rfl, Nat.le_of_ble_eq_true rfl⟩ ⟨Nat.zero_le _, Nat.zero_le _⟩ hl.1 (Nat.le_of_ble_eq_true rfl) rfl dX10_trench_52 (fun H locs Z => ?_)
          refine lv_if_eq (tgt := 69) hx hb dX10_trench_55 (by decide) (fun c8 => ?_) (fun c8 => ?_)
          · have h := dw_ifT c8 h
            refine lv_iconst (v := (-1 : Int32)) hx hb dX10_trench_69 (by decide) ?_
            obtain ⟨rfl, rfl⟩ := dw_s2 h
            exact dw_iret C0 Z hr hlk dX10_trench_70
          · have h := dw_ifF c8 h
            refine lv_iload hx hb dX10_trench_58 (lv_at hl 4 rfl) ?_
            refine lv_iconst (v := (1 : Int32)) hx hb dX10_trench_60 (by decide) ?_
            refine lv_bipush (v := (50 : Int32)) hx hb dX10_trench_61 (by decide) ?_
            refine dw_cSi C0 Z dw_hA (As := [.int a4, .int (1 : Int32), .int (50 : Int32)]) (rest := []) (kX10_in l Γ hj μ a4 (1 : Int32) (50 : Int32) rfl) (dw_gS tw_lX10_29 tw_sX10_in tw_iX10 tw_kX10_in) dw_hX10_in ⟨Nat.le_of_ble_eq_true rfl, Nat.le_of_ble_eq_true rfl⟩ ⟨Nat.zero_le _, Nat.zero_le _⟩ hl.1 (Nat.le_of_ble_eq_true rfl) rfl dX10_trench_63 (fun H locs Z => ?_)
            refine lv_if_ne (tgt := 71) hx hb dX10_trench_66 (by decide) (fun c9 => ?_) (fun c9 => ?_)
            · have h := dw_ifF c9 h
              refine lv_aload_n hx hb dX10_trench_71 rfl (lv_at hl 0 rfl) ?_
              refine lv_iload_n hx hb dX10_trench_72 rfl (lv_at hl 1 rfl) ?_
              obtain ⟨r11, hc10, h⟩ := dw_bdS h
              refine dw_cVi C0 Z dw_hA (dw_lt dw_kc142 (by decide)) (dw_cz10 dw_kc142) rfl (As := [.int a1]) (rest := []) (kX10_rowOf l Γ hj μ a1 hc10) (dw_gV tw_lX10_37 tw_vX10_rowOf tw_eX10_rowOf tw_iX10 tw_kX10_rowOf) dw_hX10_rowOf ⟨Nat.le_of_ble_eq_true rfl, Nat.le_of_ble_eq_true rfl⟩ ⟨Nat.zero_le _, Nat.zero_le _⟩ hl.1 (Nat.le_of_ble_eq_true rfl) rfl dX10_trench_73 (fun H locs Z => ?_)
              refine lv_aload_n hx hb dX10_trench_76 rfl (lv_at hl 0 rfl) ?_
              refine lv_iload_n hx hb dX10_trench_77 rfl (lv_at hl 2 rfl) ?_
              obtain ⟨r13, hc12, h⟩ := dw_bdS h
              refine dw_cVi C0 Z dw_hA (dw_lt dw_kc142 (by decide)) (dw_cz10 dw_kc142) rfl (As := [.int a2]) (rest := [.int r11]) (kX10_rowOf l Γ hj μ a2 hc12) (dw_gV tw_lX10_37 tw_vX10_rowOf tw_eX10_rowOf tw_iX10 tw_kX10_rowOf) dw_hX10_rowOf ⟨Nat.le_of_ble_eq_true rfl, Nat.le_of_ble_eq_true rfl⟩ ⟨Nat.zero_le _, Nat.zero_le _⟩ hl.1 (Nat.le_of_ble_eq_true rfl) rfl dX10_trench_78 (fun H locs Z => ?_)
              refine lv_isub hx hb dX10_trench_81 ?_
              refine dw_cSi C0 Z dw_hA (As := [.int (r11 - r13)]) (rest := []) (kX10_size l Γ hj μ (r11 - r13) rfl) (dw_gS tw_lX10_44 tw_sX10_size tw_iX10 tw_kX10_size) dw_hX10_size ⟨Nat.le_of_ble_eq_true rfl, Nat.le_of_ble_eq_true rfl⟩ ⟨Nat.zero_le _, Nat.zero_le _⟩ hl.1 (Nat.le_of_ble_eq_true rfl) rfl dX10_trench_82 (fun H locs Z => ?_)
              refine lv_aload_n hx hb dX10_trench_85 rfl (lv_at hl 0 rfl) ?_
              refine lv_iload_n hx hb dX10_trench_86 rfl (lv_at hl 1 rfl) ?_
              obtain ⟨r15, hc14, h⟩ := dw_bdS h
              refine dw_cVi C0 Z dw_hA (dw_lt dw_kc142 (by decide)) (dw_cz10 dw_kc142) rfl (As := [.int a1]) (rest := [.int (fX10_size (r11 - r13))]) (kX10_columnOf l Γ hj μ a1 hc14) (dw_gV tw_lX10_41 tw_vX10_columnOf tw_eX10_columnOf tw_iX10 tw_kX10_columnOf) dw_hX10_columnOf ⟨Nat.le_of_ble_eq_true rfl, Nat.le_of_ble_eq_true rfl⟩ ⟨Nat.zero_le _, Nat.zero_le _⟩ hl.1 (Nat.le_of_ble_eq_true rfl) rfl dX10_trench_87 (fun H locs Z => ?_)
              refine lv_aload_n hx hb dX10_trench_90 rfl (lv_at hl 0 rfl) ?_
              refine lv_iload_n hx hb dX10_trench_91 rfl (lv_at hl 2 rfl) ?_
              obtain ⟨r17, hc16, h⟩ := dw_bdS h
              refine dw_cVi C0 Z dw_hA (dw_lt dw_kc142 (by decide)) (dw_cz10 dw_kc142) rfl (As := [.int a2]) (rest := [.int r15, .int (fX10_size (r11 - r13))]) (kX10_columnOf l Γ hj μ a2 hc16) (dw_gV tw_lX10_41 tw_vX10_columnOf tw_eX10_columnOf tw_iX10 tw_kX10_columnOf) dw_hX10_columnOf ⟨Nat.le_of_ble_eq_true rfl, Nat.le_of_ble_eq_true rfl⟩ ⟨Nat.zero_le _, Nat.zero_le _⟩ hl.1 (Nat.le_of_ble_eq_true rfl) rfl dX10_trench_92 (fun H locs Z => ?_)
              refine lv_isub hx hb dX10_trench_95 ?_
              refine dw_cSi C0 Z dw_hA (As := [.int (r15 - r17)]) (rest := [.int (fX10_size (r11 - r13))]) (kX10_size l Γ hj μ (r15 - r17) rfl) (dw_gS tw_lX10_44 tw_sX10_size tw_iX10 tw_kX10_size) dw_hX10_size ⟨Nat.le_of_ble_eq_true rfl, Nat.le_of_ble_eq_true rfl⟩ ⟨Nat.zero_le _, Nat.zero_le _⟩ hl.1 (Nat.le_of_ble_eq_true rfl) rfl dX10_trench_96 (fun H locs Z => ?_)
              refine lv_iadd hx hb dX10_trench_99 ?_
              refine lv_iconst (v := (1 : Int32)) hx hb dX10_trench_100 (by decide) ?_
              refine lv_iadd hx hb dX10_trench_101 ?_
              refine lv_topi (fun x18 ex18 => ?_)
              have h := dw_nmS ex18 h
              refine lv_istore (lv' := [(5, .int x18), (0, .ref (dw_ad Γ 142)), (1, .int a1), (2, .int a2), (3, .int a3), (4, .int a4)]) hx hb dX10_trench_102 hl (by decide) rfl (fun ls hl => ?_)
              refine lv_aload_n hx hb dX10_trench_104 rfl (lv_at hl 1 rfl) ?_
              refine dw_g10_0 (t := 143) C0 Z dw_kc142 tw_fX10_7 rfl dX10_trench_105 ?_
              refine lv_iconst (v := (2 : Int32)) hx hb dX10_trench_108 (by decide) ?_
              refine lv_iload hx hb dX10_trench_109 (lv_at hl 0 rfl) ?_
              refine dw_ast C0 Z dw_hA dw_kc143 dw_lc143 (by decide) dX10_trench_111 (fun μ19 eμ19 H locs Z => ?_)
              have h := dw_nmS eμ19 h
              refine lv_aload_n hx hb dX10_trench_112 rfl (lv_at hl 1 rfl) ?_
              refine dw_g10_0 (t := 143) C0 Z dw_kc142 tw_fX10_7 rfl dX10_trench_113 ?_
              refine lv_iconst (v := (3 : Int32)) hx hb dX10_trench_116 (by decide) ?_
              refine lv_iload_n hx hb dX10_trench_117 rfl (lv_at hl 2 rfl) ?_
              refine dw_ast C0 Z dw_hA dw_kc143 dw_lc143 (by decide) dX10_trench_118 (fun μ20 eμ20 H locs Z => ?_)
              have h := dw_nmS eμ20 h
              refine lv_aload_n hx hb dX10_trench_119 rfl (lv_at hl 1 rfl) ?_
              refine dw_g10_0 (t := 143) C0 Z dw_kc142 tw_fX10_7 rfl dX10_trench_120 ?_
              refine lv_iconst (v := (4 : Int32)) hx hb dX10_trench_123 (by decide) ?_
              refine lv_iload_n hx hb dX10_trench_124 rfl (lv_at hl 3 rfl) ?_
              refine dw_ast C0 Z dw_hA dw_kc143 dw_lc143 (by decide) dX10_trench_125 (fun μ21 eμ21 H locs Z => ?_)
              have h := dw_nmS eμ21 h
              refine lv_aload_n hx hb dX10_trench_126 rfl (lv_at hl 1 rfl) ?_
              refine dw_g10_0 (t := 143) C0 Z dw_kc142 tw_fX10_7 rfl dX10_trench_127 ?_
              refine lv_iconst (v := (5 : Int32)) hx hb dX10_trench_130 (by decide) ?_
              refine lv_iload_n hx hb dX10_trench_131 rfl (lv_at hl 4 rfl) ?_
              refine dw_ast C0 Z dw_hA dw_kc143 dw_lc143 (by decide) dX10_trench_132 (fun μ22 eμ22 H locs Z => ?_)
              have h := dw_nmS eμ22 h
              refine lv_aload_n hx hb dX10_trench_133 rfl (lv_at hl 1 rfl) ?_
              refine dw_g10_0 (t := 143) C0 Z dw_kc142 tw_fX10_7 rfl dX10_trench_134 ?_
              refine lv_bipush (v := (6 : Int32)) hx hb dX10_trench_137 (by decide) ?_
              refine lv_iload hx hb dX10_trench_139 (lv_at hl 5 rfl) ?_
              refine dw_ast C0 Z dw_hA dw_kc143 dw_lc143 (by decide) dX10_trench_141 (fun μ23 eμ23 H locs Z => ?_)
              have h := dw_nmS eμ23 h
              refine lv_iload hx hb dX10_trench_142 (lv_at hl 0 rfl) ?_
              obtain ⟨rfl, rfl⟩ := dw_s2 h
              exact dw_iret C0 Z hr hlk dX10_trench_144
            · have h := dw_ifT c9 h
              refine lv_iconst (v := (-1 : Int32)) hx hb dX10_trench_69 (by decide) ?_
              obtain ⟨rfl, rfl⟩ := dw_s2 h
              exact dw_iret C0 Z hr hlk dX10_trench_70
        refine lv_icmp_eq (tgt := 47) hx hb dX10_trench_31 (by decide) (fun c24 => ?_) (fun c24 => ?_)
        · have h := dw_ifT c24 h
          exact J47 H locs ls Z (lv_sub hl [0, 1, 2, 3, 4] rfl) h
        · have h := dw_ifF c24 h
          refine lv_aload_n hx hb dX10_trench_34 rfl (lv_at hl 0 rfl) ?_
          refine lv_iload_n hx hb dX10_trench_35 rfl (lv_at hl 1 rfl) ?_
          obtain ⟨r26, hc25, h⟩ := dw_bdS h
          refine dw_cVi C0 Z dw_hA (dw_lt dw_kc142 (by decide)) (dw_cz10 dw_kc142) rfl (As := [.int a1]) (rest := []) (kX10_columnOf l Γ hj μ a1 hc25) (dw_gV tw_lX10_41 tw_vX10_columnOf tw_eX10_columnOf tw_iX10 tw_kX10_columnOf) dw_hX10_columnOf ⟨Nat.le_of_ble_eq_true rfl, Nat.le_of_ble_eq_true rfl⟩ ⟨Nat.zero_le _, Nat.zero_le _⟩ hl.1 (Nat.le_of_ble_eq_true rfl) rfl dX10_trench_36 (fun H locs Z => ?_)
          refine lv_aload_n hx hb dX10_trench_39 rfl (lv_at hl 0 rfl) ?_
          refine lv_iload_n hx hb dX10_trench_40 rfl (lv_at hl 2 rfl) ?_
          obtain ⟨r28, hc27, h⟩ := dw_bdS h
          refine dw_cVi C0 Z dw_hA (dw_lt dw_kc142 (by decide)) (dw_cz10 dw_kc142) rfl (As := [.int a2]) (rest := [.int r26]) (kX10_columnOf l Γ hj μ a2 hc27) (dw_gV tw_lX10_41 tw_vX10_columnOf tw_eX10_columnOf tw_iX10 tw_kX10_columnOf) dw_hX10_columnOf ⟨Nat.le_of_ble_eq_true rfl, Nat.le_of_ble_eq_true rfl⟩ ⟨Nat.zero_le _, Nat.zero_le _⟩ hl.1 (Nat.le_of_ble_eq_true rfl) rfl dX10_trench_41 (fun H locs Z => ?_)
          refine lv_icmp_ne (tgt := 69) hx hb dX10_trench_44 (by decide) (fun c29 => ?_) (fun c29 => ?_)
          · have h := dw_ifF c29 h
            refine lv_iconst (v := (-1 : Int32)) hx hb dX10_trench_69 (by decide) ?_
            obtain ⟨rfl, rfl⟩ := dw_s2 h
            exact dw_iret C0 Z hr hlk dX10_trench_70
          · have h := dw_ifT c29 h
            exact J47 H locs ls Z (lv_sub hl [0, 1, 2, 3, 4] rfl) h

def fX10_placeAt (μ : dw_M) (a1 : Int32) (a2 : Int32) (a3 : Int32) : Option (Int32) :=
  dw_bd (fX10_rowOf μ a1) (fun r2 =>
  dw_bd (fX10_rowOf μ a2) (fun r4 =>
  dw_jm (fun (x5 : Int32) =>
  if a2 ≤ a1 then (
  some (a1 - (a3 * x5)))
  else (
  some (a1 + (a3 * x5)))) (fun k23 =>
  if r2 = r4 then (
  k23 (1 : Int32))
  else (
  k23 (μ.1 143 (1 : Int32).toNatClampNeg)))))
set_option maxHeartbeats 4000000 in
set_option maxRecDepth 100000 in
theorem kX10_placeAt (l : Launch) (Γ : dw_G) (hj : dw_inj Γ) (μ : dw_M) (a1 : Int32) (a2 : Int32) (a3 : Int32) {r : Int32} (h : fX10_placeAt μ a1 a2 a3 = some r) : Met l yX10_placeAt (dw_ws yX10_placeAt cX10_placeAt 5 (some .int)) (dw_rm 1 21) (dw_P Γ ([.ref (dw_ad Γ 142), .int a1, .int a2, .int a3] : List Value) μ) (dw_Qi Γ r μ) 0 0 (dw_A Γ) := by
  refine dw_met (own := RX10) rfl rfl (Nat.le_of_ble_eq_true rfl) hj ?_
  intro p e s m below meth c C0 hr hlk Z ls hl
  have hx := C0.1
  have hb := C0.2.1
  have hl : lv_has ls 5 [(0, .ref (dw_ad Γ 142)), (1, .int a1), (2, .int a2), (3, .int a3)] := hl
  suffices key : ∀ (H : Heap) (locs : List Loc), dw_Z Γ (dw_A Γ) s.heap μ H locs → W p l e (dw_rm 1 21) s m ([.ref (dw_ad Γ 142), .int a1, .int a2, .int a3] : List Value).toArray below meth c H locs 0 0 (MQ below (dw_Qi Γ r μ) ([.ref (dw_ad Γ 142), .int a1, .int a2, .int a3] : List Value).toArray s 0 0 (dw_A Γ)) (F0 m 0 ls []) from key _ _ Z
  clear Z
  intro H locs Z
  unfold fX10_placeAt at h
  refine lv_aload_n hx hb dX10_placeAt_0 rfl (lv_at hl 0 rfl) ?_
  refine lv_iload_n hx hb dX10_placeAt_1 rfl (lv_at hl 1 rfl) ?_
  obtain ⟨r2, hc1, h⟩ := dw_bdS h
  refine dw_cVi C0 Z dw_hA (dw_lt dw_kc142 (by decide)) (dw_cz10 dw_kc142) rfl (As := [.int a1]) (rest := []) (kX10_rowOf l Γ hj μ a1 hc1) (dw_gV tw_lX10_37 tw_vX10_rowOf tw_eX10_rowOf tw_iX10 tw_kX10_rowOf) dw_hX10_rowOf ⟨Nat.le_of_ble_eq_true rfl, Nat.le_of_ble_eq_true rfl⟩ ⟨Nat.zero_le _, Nat.zero_le _⟩ hl.1 (Nat.le_of_ble_eq_true rfl) rfl dX10_placeAt_2 (fun H locs Z => ?_)
  refine lv_aload_n hx hb dX10_placeAt_5 rfl (lv_at hl 0 rfl) ?_
  refine lv_iload_n hx hb dX10_placeAt_6 rfl (lv_at hl 2 rfl) ?_
  obtain ⟨r4, hc3, h⟩ := dw_bdS h
  refine dw_cVi C0 Z dw_hA (dw_lt dw_kc142 (by decide)) (dw_cz10 dw_kc142) rfl (As := [.int a2]) (rest := [.int r2]) (kX10_rowOf l Γ hj μ a2 hc3) (dw_gV tw_lX10_37 tw_vX10_rowOf tw_eX10_rowOf tw_iX10 tw_kX10_rowOf) dw_hX10_rowOf ⟨Nat.le_of_ble_eq_true rfl, Nat.le_of_ble_eq_true rfl⟩ ⟨Nat.zero_le _, Nat.zero_le _⟩ hl.1 (Nat.le_of_ble_eq_true rfl) rfl dX10_placeAt_7 (fun H locs Z => ?_)
  obtain ⟨k23, ek23, h⟩ := dw_jnS h
  have J23 : ∀ (x5 : Int32) (H : Heap) (locs : List Loc) (ls : Array Slot), dw_Z Γ (dw_A Γ) s.heap μ H locs → lv_has ls 5 [(1, .int a1), (2, .int a2), (3, .int a3)] → k23 x5 = some r → W p l e (dw_rm 1 21) s m ([.ref (dw_ad Γ 142), .int a1, .int a2, .int a3] : List Value).toArray below meth c H locs 0 0 (MQ below (dw_Qi Γ r μ) ([.ref (dw_ad Γ 142), .int a1, .int a2, .int a3] : List Value).toArray s 0 0 (dw_A Γ)) (F0 m 23 ls [.int x5]) := by
    clear h
    intro x5 H locs ls Z hl h
    rw [ek23] at h
    dsimp only at h
    refine lv_istore (lv' := [(4, .int x5), (1, .int a1), (2, .int a2), (3, .int a3)]) hx hb dX10_placeAt_23 hl (by decide) rfl (fun ls hl => ?_)
    refine lv_iload_n hx hb dX10_placeAt_25 rfl (lv_at hl 2 rfl) ?_
    refine lv_iload_n hx hb dX10_placeAt_26 rfl (lv_at hl 1 rfl) ?_
    refine lv_icmp_le (tgt := 39) hx hb dX10_placeAt_27 (by decide) (fun c6 => ?_) (fun c6 => ?_)
    · have h := dw_ifT c6 h
      refine lv_iload_n hx hb dX10_placeAt_39 rfl (lv_at hl 1 rfl) ?_
      refine lv_iload_n hx hb dX10_placeAt_40 rfl (lv_at hl 3 rfl) ?_
      refine lv_iload hx hb dX10_placeAt_41 (lv_at hl 0 rfl) ?_
      refine lv_imul hx hb dX10_placeAt_43 ?_
      refine lv_isub hx hb dX10_placeAt_44 ?_
      obtain rfl := dw_s1 h
      exact dw_iret C0 Z hr hlk dX10_placeAt_45
    · have h := dw_ifF c6 h
      refine lv_iload_n hx hb dX10_placeAt_30 rfl (lv_at hl 1 rfl) ?_
      refine lv_iload_n hx hb dX10_placeAt_31 rfl (lv_at hl 3 rfl) ?_
      refine lv_iload hx hb dX10_placeAt_32 (lv_at hl 0 rfl) ?_
      refine lv_imul hx hb dX10_placeAt_34 ?_
      refine lv_iadd hx hb dX10_placeAt_35 ?_
      refine lv_goto (tgt := 45) hx hb dX10_placeAt_36 (by decide) ?_
      obtain rfl := dw_s1 h
      exact dw_iret C0 Z hr hlk dX10_placeAt_45
  refine lv_icmp_ne (tgt := 17) hx hb dX10_placeAt_10 (by decide) (fun c7 => ?_) (fun c7 => ?_)
  · have h := dw_ifF c7 h
    refine lv_aload_n hx hb dX10_placeAt_17 rfl (lv_at hl 0 rfl) ?_
    refine dw_g10_0 (t := 143) C0 Z dw_kc142 tw_fX10_7 rfl dX10_placeAt_18 ?_
    refine lv_iconst (v := (1 : Int32)) hx hb dX10_placeAt_21 (by decide) ?_
    refine dw_ald C0 Z dw_kc143 dw_lc143 (by decide) dX10_placeAt_22 ?_
    exact J23 (μ.1 143 (1 : Int32).toNatClampNeg) H locs ls Z (lv_sub hl [1, 2, 3] rfl) h
  · have h := dw_ifT c7 h
    refine lv_iconst (v := (1 : Int32)) hx hb dX10_placeAt_13 (by decide) ?_
    refine lv_goto (tgt := 23) hx hb dX10_placeAt_14 (by decide) ?_
    exact J23 (1 : Int32) H locs ls Z (lv_sub hl [1, 2, 3] rfl) h

def sX10_pipe_54 (μ : dw_M) (x3 : Int32) (x5 : Int32) : Option ((Int32) ⊕ ((Unit) ⊕ (Int32 × dw_M))) :=
  if x3 ≤ x5 then (
  some (.inr (.inl ())))
  else (
  dw_nm ((μ.1 143 (5 : Int32).toNatClampNeg) - (x5 * (μ.1 143 (6 : Int32).toNatClampNeg))) (fun x7 =>
  if x7 < 0 then (
  some (.inr (.inr (((-100 : Int32) - x5), μ))))
  else (
  dw_bd (fX10_placeAt μ (μ.1 143 (3 : Int32).toNatClampNeg) (μ.1 143 (4 : Int32).toNatClampNeg) x5) (fun r10 =>
  dw_gd (dw_ok ((20 : Int32) + r10) 800) (
  if (60 : Int32) ≤ ((μ.1 143 ((20 : Int32) + r10).toNatClampNeg) - x7) then (
  dw_nm (x5 + (1 : Int32)) (fun x13 =>
  some (.inl x13)))
  else (
  some (.inr (.inr (((-100 : Int32) - x5), μ)))))))))
def fX10_pipe (μ : dw_M) (a1 : Int32) (a2 : Int32) (a3 : Int32) : Option (Int32 × dw_M) :=
  if (fX10_in a1 (0 : Int32) (3 : Int32)) = 0 then (
  some ((-1 : Int32), μ))
  else (
  if (fX10_in a2 (1 : Int32) (4 : Int32)) = 0 then (
  some ((-1 : Int32), μ))
  else (
  dw_jm (dw_nm (μ.1 143 (2 : Int32).toNatClampNeg) (fun x3 =>
  if x3 = 0 then (
  some ((-6 : Int32), μ))
  else (
  dw_bd (dw_wh (fun v => sX10_pipe_54 μ x3 v) 1000 (0 : Int32))
    (Sum.elim (fun _ => if (μ.1 143 (13 : Int32).toNatClampNeg) = (20 : Int32) then (
  some ((-2 : Int32), μ))
  else (
  dw_nm (μ.1 143 (13 : Int32).toNatClampNeg) (fun x15 =>
  dw_nm (dw_st μ 143 (13 : Int32).toNatClampNeg ((μ.1 143 (13 : Int32).toNatClampNeg) + (1 : Int32))) (fun μ16 =>
  dw_bd (fX10_setPipe μ16 x15 (0 : Int32) a1) (fun μ18 =>
  dw_bd (fX10_setPipe μ18 x15 (1 : Int32) (μ18.1 143 (3 : Int32).toNatClampNeg)) (fun μ20 =>
  dw_bd (fX10_setPipe μ20 x15 (2 : Int32) (μ20.1 143 (4 : Int32).toNatClampNeg)) (fun μ22 =>
  dw_bd (fX10_setPipe μ22 x15 (3 : Int32) (μ22.1 143 (5 : Int32).toNatClampNeg)) (fun μ24 =>
  dw_bd (fX10_setPipe μ24 x15 (4 : Int32) (μ24.1 143 (6 : Int32).toNatClampNeg)) (fun μ26 =>
  dw_bd (fX10_setPipe μ26 x15 (5 : Int32) a2) (fun μ28 =>
  dw_jm (fun (x29 : Int32) =>
  dw_bd (fX10_setPipe μ28 x15 (6 : Int32) x29) (fun μ31 =>
  dw_bd (fX10_setPipe μ31 x15 (7 : Int32) (-1 : Int32)) (fun μ33 =>
  dw_bd (fX10_setPipe μ33 x15 (8 : Int32) (0 : Int32)) (fun μ35 =>
  dw_bd (fX10_setPipe μ35 x15 (9 : Int32) (0 : Int32)) (fun μ37 =>
  dw_bd (fX10_setPipe μ37 x15 (10 : Int32) (0 : Int32)) (fun μ39 =>
  dw_bd (fX10_setPipe μ39 x15 (11 : Int32) x3) (fun μ41 =>
  some (x15, μ41)))))))) (fun k250 =>
  if a1 = (2 : Int32) then (
  k250 a3)
  else (
  k250 (0 : Int32))))))))))))) (fun r => some r))))) (fun k35 =>
  if a1 = (2 : Int32) then (
  if (fX10_in a3 (1 : Int32) (100 : Int32)) = 0 then (
  some ((-1 : Int32), μ))
  else (
  k35))
  else (
  k35))))
set_option maxHeartbeats 4000000 in
set_option maxRecDepth 100000 in
theorem kX10_pipe (l : Launch) (Γ : dw_G) (hj : dw_inj Γ) (μ : dw_M) (a1 : Int32) (a2 : Int32) (a3 : Int32) {r : Int32} {ν : dw_M} (h : fX10_pipe μ a1 a2 a3 = some (r, ν)) : Met l yX10_pipe (dw_ws yX10_pipe cX10_pipe 7 (some .int)) (dw_rm 2 45) (dw_P Γ ([.ref (dw_ad Γ 142), .int a1, .int a2, .int a3] : List Value) μ) (dw_Qi Γ r ν) 0 0 (dw_A Γ) := by
  refine dw_met (own := RX10) rfl rfl (Nat.le_of_ble_eq_true rfl) hj ?_
  intro p e s m below meth c C0 hr hlk Z ls hl
  have hx := C0.1
  have hb := C0.2.1
  have hl : lv_has ls 7 [(0, .ref (dw_ad Γ 142)), (1, .int a1), (2, .int a2), (3, .int a3)] := hl
  suffices key : ∀ (H : Heap) (locs : List Loc), dw_Z Γ (dw_A Γ) s.heap μ H locs → W p l e (dw_rm 2 45) s m ([.ref (dw_ad Γ 142), .int a1, .int a2, .int a3] : List Value).toArray below meth c H locs 0 0 (MQ below (dw_Qi Γ r ν) ([.ref (dw_ad Γ 142), .int a1, .int a2, .int a3] : List Value).toArray s 0 0 (dw_A Γ)) (F0 m 0 ls []) from key _ _ Z
  clear Z
  intro H locs Z
  unfold fX10_pipe at h
  refine lv_iload_n hx hb dX10_pipe_0 rfl (lv_at hl 1 rfl) ?_
  refine lv_iconst (v := (0 : Int32)) hx hb dX10_pipe_1 (by decide) ?_
  refine lv_iconst (v := (3 : Int32)) hx hb dX10_pipe_2 (by decide) ?_
  refine dw_cSi C0 Z dw_hA (As := [.int a1, .int (0 : Int32), .int (3 : Int32)]) (rest := []) (kX10_in l Γ hj μ a1 (0 : Int32) (3 : Int32) rfl) (dw_gS tw_lX10_29 tw_sX10_in tw_iX10 tw_kX10_in) dw_hX10_in ⟨Nat.le_of_ble_eq_true rfl, Nat.le_of_ble_eq_true rfl⟩ ⟨Nat.zero_le _, Nat.zero_le _⟩ hl.1 (Nat.le_of_ble_eq_true rfl) rfl dX10_pipe_3 (fun H locs Z => ?_)
  refine lv_if_eq (tgt := 33) hx hb dX10_pipe_6 (by decide) (fun c1 => ?_) (fun c1 => ?_)
  · have h := dw_ifT c1 h
    refine lv_iconst (v := (-1 : Int32)) hx hb dX10_pipe_33 (by decide) ?_
    obtain ⟨rfl, rfl⟩ := dw_s2 h
    exact dw_iret C0 Z hr hlk dX10_pipe_34
  · have h := dw_ifF c1 h
    refine lv_iload_n hx hb dX10_pipe_9 rfl (lv_at hl 2 rfl) ?_
    refine lv_iconst (v := (1 : Int32)) hx hb dX10_pipe_10 (by decide) ?_
    refine lv_iconst (v := (4 : Int32)) hx hb dX10_pipe_11 (by decide) ?_
    refine dw_cSi C0 Z dw_hA (As := [.int a2, .int (1 : Int32), .int (4 : Int32)]) (rest := []) (kX10_in l Γ hj μ a2 (1 : Int32) (4 : Int32) rfl) (dw_gS tw_lX10_29 tw_sX10_in tw_iX10 tw_kX10_in) dw_hX10_in ⟨Nat.le_of_ble_eq_true rfl, Nat.le_of_ble_eq_true rfl⟩ ⟨Nat.zero_le _, Nat.zero_le _⟩ hl.1 (Nat.le_of_ble_eq_true rfl) rfl dX10_pipe_12 (fun H locs Z => ?_)
    refine lv_if_eq (tgt := 33) hx hb dX10_pipe_15 (by decide) (fun c2 => ?_) (fun c2 => ?_)
    · have h := dw_ifT c2 h
      refine lv_iconst (v := (-1 : Int32)) hx hb dX10_pipe_33 (by decide) ?_
      obtain ⟨rfl, rfl⟩ := dw_s2 h
      exact dw_iret C0 Z hr hlk dX10_pipe_34
    · have h := dw_ifF c2 h
      refine lv_iload_n hx hb dX10_pipe_18 rfl (lv_at hl 1 rfl) ?_
      refine lv_iconst (v := (2 : Int32)) hx hb dX10_pipe_19 (by decide) ?_
      obtain ⟨k35, ek35, h⟩ := dw_jnS h
      have J35 : ∀ (H : Heap) (locs : List Loc) (ls : Array Slot), dw_Z Γ (dw_A Γ) s.heap μ H locs → lv_has ls 7 [(0, .ref (dw_ad Γ 142)), (1, .int a1), (2, .int a2), (3, .int a3)] → k35 = some (r, ν) → W p l e (dw_rm 2 45) s m ([.ref (dw_ad Γ 142), .int a1, .int a2, .int a3] : List Value).toArray below meth c H locs 0 0 (MQ below (dw_Qi Γ r ν) ([.ref (dw_ad Γ 142), .int a1, .int a2, .int a3] : List Value).toArray s 0 0 (dw_A Γ)) (F0 m 35 ls []) := by
        clear h
        intro  H locs ls Z hl h
        rw [ek35] at h
        refine lv_aload_n hx hb dX10_pipe_35 rfl (lv_at hl 0 rfl) ?_
        refine dw_g10_0 (t := 143) C0 Z dw_kc142 tw_fX10_7 rfl dX10_pipe_36 ?_
        refine lv_iconst (v := (2 : Int32)) hx hb dX10_pipe_39 (by decide) ?_
        refine dw_ald C0 Z dw_kc143 dw_lc143 (by decide) dX10_pipe_40 ?_
        refine lv_topi (fun x3 ex3 => ?_)
        have h := dw_nmS ex3 h
        refine lv_istore (lv' := [(4, .int x3), (0, .ref (dw_ad Γ 142)), (1, .int a1), (2, .int a2), (3, .int a3)]) hx hb dX10_pipe_41 hl (by decide) rfl (fun ls hl => ?_)
        refine lv_iload hx hb dX10_pipe_43 (lv_at hl 0 rfl) ?_
        refine lv_if_ne (tgt := 51) hx hb dX10_pipe_45 (by decide) (fun c4 => ?_) (fun c4 => ?_)
        · have h := dw_ifF c4 h
          refine lv_iconst (v := (0 : Int32)) hx hb dX10_pipe_51 (by decide) ?_
          refine lv_istore (lv' := [(5, .int (0 : Int32)), (4, .int x3), (0, .ref (dw_ad Γ 142)), (1, .int a1), (2, .int a2), (3, .int a3)]) hx hb dX10_pipe_52 hl (by decide) rfl (fun ls hl => ?_)
          obtain ⟨kc54, ekc54, h⟩ := dw_bdK h
          have E54 : ∀ (H : Heap) (locs : List Loc) (ls : Array Slot), dw_Z Γ (dw_A Γ) s.heap μ H locs → lv_has ls 7 [(0, .ref (dw_ad Γ 142)), (1, .int a1), (2, .int a2), (3, .int a3), (4, .int x3)] → kc54 (.inl ()) = some (r, ν) → W p l e (dw_rm 2 45) s m ([.ref (dw_ad Γ 142), .int a1, .int a2, .int a3] : List Value).toArray below meth c H locs 0 0 (MQ below (dw_Qi Γ r ν) ([.ref (dw_ad Γ 142), .int a1, .int a2, .int a3] : List Value).toArray s 0 0 (dw_A Γ)) (F0 m 131 ls []) := by
            intro  H locs ls Z hl h
            rw [ekc54] at h
            dsimp only [Sum.elim] at h
            refine lv_aload_n hx hb dX10_pipe_131 rfl (lv_at hl 0 rfl) ?_
            refine dw_g10_0 (t := 143) C0 Z dw_kc142 tw_fX10_7 rfl dX10_pipe_132 ?_
            refine lv_bipush (v := (13 : Int32)) hx hb dX10_pipe_135 (by decide) ?_
            refine dw_ald C0 Z dw_kc143 dw_lc143 (by decide) dX10_pipe_137 ?_
            refine lv_bipush (v := (20 : Int32)) hx hb dX10_pipe_138 (by decide) ?_
            refine lv_icmp_ne (tgt := 146) hx hb dX10_pipe_140 (by decide) (fun c14 => ?_) (fun c14 => ?_)
            · have h := dw_ifF c14 h
              refine lv_aload_n hx hb dX10_pipe_146 rfl (lv_at hl 0 rfl) ?_
              refine dw_g10_0 (t := 143) C0 Z dw_kc142 tw_fX10_7 rfl dX10_pipe_147 ?_
              refine lv_bipush (v := (13 : Int32)) hx hb dX10_pipe_150 (by decide) ?_
              refine dw_ald C0 Z dw_kc143 dw_lc143 (by decide) dX10_pipe_152 ?_
              refine lv_topi (fun x15 ex15 => ?_)
              have h := dw_nmS ex15 h
              refine lv_istore (lv' := [(5, .int x15), (0, .ref (dw_ad Γ 142)), (1, .int a1), (2, .int a2), (3, .int a3), (4, .int x3)]) hx hb dX10_pipe_153 hl (by decide) rfl (fun ls hl => ?_)
              refine lv_aload_n hx hb dX10_pipe_155 rfl (lv_at hl 1 rfl) ?_
              refine dw_g10_0 (t := 143) C0 Z dw_kc142 tw_fX10_7 rfl dX10_pipe_156 ?_
              refine lv_bipush (v := (13 : Int32)) hx hb dX10_pipe_159 (by decide) ?_
              refine lv_dup2_11 hx hb dX10_pipe_161 rfl rfl ?_
              refine dw_ald C0 Z dw_kc143 dw_lc143 (by decide) dX10_pipe_162 ?_
              refine lv_iconst (v := (1 : Int32)) hx hb dX10_pipe_163 (by decide) ?_
              refine lv_iadd hx hb dX10_pipe_164 ?_
              refine dw_ast C0 Z dw_hA dw_kc143 dw_lc143 (by decide) dX10_pipe_165 (fun μ16 eμ16 H locs Z => ?_)
              have h := dw_nmS eμ16 h
              refine lv_aload_n hx hb dX10_pipe_166 rfl (lv_at hl 1 rfl) ?_
              refine lv_iload hx hb dX10_pipe_167 (lv_at hl 0 rfl) ?_
              refine lv_iconst (v := (0 : Int32)) hx hb dX10_pipe_169 (by decide) ?_
              refine lv_iload_n hx hb dX10_pipe_170 rfl (lv_at hl 2 rfl) ?_
              obtain ⟨μ18, hc17, h⟩ := dw_bdS h
              refine dw_cVv C0 Z dw_hA (dw_lt dw_kc142 (by decide)) (dw_cz10 dw_kc142) rfl (As := [.int x15, .int (0 : Int32), .int a1]) (rest := []) (kX10_setPipe l Γ hj μ16 x15 (0 : Int32) a1 hc17) (dw_gV tw_lX10_51 tw_vX10_setPipe tw_eX10_setPipe tw_iX10 tw_kX10_setPipe) dw_hX10_setPipe ⟨Nat.le_of_ble_eq_true rfl, Nat.le_of_ble_eq_true rfl⟩ ⟨Nat.zero_le _, Nat.zero_le _⟩ hl.1 (Nat.le_of_ble_eq_true rfl) rfl dX10_pipe_171 (fun H locs Z => ?_)
              refine lv_aload_n hx hb dX10_pipe_174 rfl (lv_at hl 1 rfl) ?_
              refine lv_iload hx hb dX10_pipe_175 (lv_at hl 0 rfl) ?_
              refine lv_iconst (v := (1 : Int32)) hx hb dX10_pipe_177 (by decide) ?_
              refine lv_aload_n hx hb dX10_pipe_178 rfl (lv_at hl 1 rfl) ?_
              refine dw_g10_0 (t := 143) C0 Z dw_kc142 tw_fX10_7 rfl dX10_pipe_179 ?_
              refine lv_iconst (v := (3 : Int32)) hx hb dX10_pipe_182 (by decide) ?_
              refine dw_ald C0 Z dw_kc143 dw_lc143 (by decide) dX10_pipe_183 ?_
              obtain ⟨μ20, hc19, h⟩ := dw_bdS h
              refine dw_cVv C0 Z dw_hA (dw_lt dw_kc142 (by decide)) (dw_cz10 dw_kc142) rfl (As := [.int x15, .int (1 : Int32), .int (μ18.1 143 (3 : Int32).toNatClampNeg)]) (rest := []) (kX10_setPipe l Γ hj μ18 x15 (1 : Int32) (μ18.1 143 (3 : Int32).toNatClampNeg) hc19) (dw_gV tw_lX10_51 tw_vX10_setPipe tw_eX10_setPipe tw_iX10 tw_kX10_setPipe) dw_hX10_setPipe ⟨Nat.le_of_ble_eq_true rfl, Nat.le_of_ble_eq_true rfl⟩ ⟨Nat.zero_le _, Nat.zero_le _⟩ hl.1 (Nat.le_of_ble_eq_true rfl) rfl dX10_pipe_184 (fun H locs Z => ?_)
              refine lv_aload_n hx hb dX10_pipe_187 rfl (lv_at hl 1 rfl) ?_
              refine lv_iload hx hb dX10_pipe_188 (lv_at hl 0 rfl) ?_
              refine lv_iconst (v := (2 : Int32)) hx hb dX10_pipe_190 (by decide) ?_
              refine lv_aload_n hx hb dX10_pipe_191 rfl (lv_at hl 1 rfl) ?_
              refine dw_g10_0 (t := 143) C0 Z dw_kc142 tw_fX10_7 rfl dX10_pipe_192 ?_
              refine lv_iconst (v := (4 : Int32)) hx hb dX10_pipe_195 (by decide) ?_
              refine dw_ald C0 Z dw_kc143 dw_lc143 (by decide) dX10_pipe_196 ?_
              obtain ⟨μ22, hc21, h⟩ := dw_bdS h
              refine dw_cVv C0 Z dw_hA (dw_lt dw_kc142 (by decide)) (dw_cz10 dw_kc142) rfl (As := [.int x15, .int (2 : Int32), .int (μ20.1 143 (4 : Int32).toNatClampNeg)]) (rest := []) (kX10_setPipe l Γ hj μ20 x15 (2 : Int32) (μ20.1 143 (4 : Int32).toNatClampNeg) hc21) (dw_gV tw_lX10_51 tw_vX10_setPipe tw_eX10_setPipe tw_iX10 tw_kX10_setPipe) dw_hX10_setPipe ⟨Nat.le_of_ble_eq_true rfl, Nat.le_of_ble_eq_true rfl⟩ ⟨Nat.zero_le _, Nat.zero_le _⟩ hl.1 (Nat.le_of_ble_eq_true rfl) rfl dX10_pipe_197 (fun H locs Z => ?_)
              refine lv_aload_n hx hb dX10_pipe_200 rfl (lv_at hl 1 rfl) ?_
              refine lv_iload hx hb dX10_pipe_201 (lv_at hl 0 rfl) ?_
              refine lv_iconst (v := (3 : Int32)) hx hb dX10_pipe_203 (by decide) ?_
              refine lv_aload_n hx hb dX10_pipe_204 rfl (lv_at hl 1 rfl) ?_
              refine dw_g10_0 (t := 143) C0 Z dw_kc142 tw_fX10_7 rfl dX10_pipe_205 ?_
              refine lv_iconst (v := (5 : Int32)) hx hb dX10_pipe_208 (by decide) ?_
              refine dw_ald C0 Z dw_kc143 dw_lc143 (by decide) dX10_pipe_209 ?_
              obtain ⟨μ24, hc23, h⟩ := dw_bdS h
              refine dw_cVv C0 Z dw_hA (dw_lt dw_kc142 (by decide)) (dw_cz10 dw_kc142) rfl (As := [.int x15, .int (3 : Int32), .int (μ22.1 143 (5 : Int32).toNatClampNeg)]) (rest := []) (kX10_setPipe l Γ hj μ22 x15 (3 : Int32) (μ22.1 143 (5 : Int32).toNatClampNeg) hc23) (dw_gV tw_lX10_51 tw_vX10_setPipe tw_eX10_setPipe tw_iX10 tw_kX10_setPipe) dw_hX10_setPipe ⟨Nat.le_of_ble_eq_true rfl, Nat.le_of_ble_eq_true rfl⟩ ⟨Nat.zero_le _, Nat.zero_le _⟩ hl.1 (Nat.le_of_ble_eq_true rfl) rfl dX10_pipe_210 (fun H locs Z => ?_)
              refine lv_aload_n hx hb dX10_pipe_213 rfl (lv_at hl 1 rfl) ?_
              refine lv_iload hx hb dX10_pipe_214 (lv_at hl 0 rfl) ?_
              refine lv_iconst (v := (4 : Int32)) hx hb dX10_pipe_216 (by decide) ?_
              refine lv_aload_n hx hb dX10_pipe_217 rfl (lv_at hl 1 rfl) ?_
              refine dw_g10_0 (t := 143) C0 Z dw_kc142 tw_fX10_7 rfl dX10_pipe_218 ?_
              refine lv_bipush (v := (6 : Int32)) hx hb dX10_pipe_221 (by decide) ?_
              refine dw_ald C0 Z dw_kc143 dw_lc143 (by decide) dX10_pipe_223 ?_
              obtain ⟨μ26, hc25, h⟩ := dw_bdS h
              refine dw_cVv C0 Z dw_hA (dw_lt dw_kc142 (by decide)) (dw_cz10 dw_kc142) rfl (As := [.int x15, .int (4 : Int32), .int (μ24.1 143 (6 : Int32).toNatClampNeg)]) (rest := []) (kX10_setPipe l Γ hj μ24 x15 (4 : Int32) (μ24.1 143 (6 : Int32).toNatClampNeg) hc25) (dw_gV tw_lX10_51 tw_vX10_setPipe tw_eX10_setPipe tw_iX10 tw_kX10_setPipe) dw_hX10_setPipe ⟨Nat.le_of_ble_eq_true rfl, Nat.le_of_ble_eq_true rfl⟩ ⟨Nat.zero_le _, Nat.zero_le _⟩ hl.1 (Nat.le_of_ble_eq_true rfl) rfl dX10_pipe_224 (fun H locs Z => ?_)
              refine lv_aload_n hx hb dX10_pipe_227 rfl (lv_at hl 1 rfl) ?_
              refine lv_iload hx hb dX10_pipe_228 (lv_at hl 0 rfl) ?_
              refine lv_iconst (v := (5 : Int32)) hx hb dX10_pipe_230 (by decide) ?_
              refine lv_iload_n hx hb dX10_pipe_231 rfl (lv_at hl 3 rfl) ?_
              obtain ⟨μ28, hc27, h⟩ := dw_bdS h
              refine dw_cVv C0 Z dw_hA (dw_lt dw_kc142 (by decide)) (dw_cz10 dw_kc142) rfl (As := [.int x15, .int (5 : Int32), .int a2]) (rest := []) (kX10_setPipe l Γ hj μ26 x15 (5 : Int32) a2 hc27) (dw_gV tw_lX10_51 tw_vX10_setPipe tw_eX10_setPipe tw_iX10 tw_kX10_setPipe) dw_hX10_setPipe ⟨Nat.le_of_ble_eq_true rfl, Nat.le_of_ble_eq_true rfl⟩ ⟨Nat.zero_le _, Nat.zero_le _⟩ hl.1 (Nat.le_of_ble_eq_true rfl) rfl dX10_pipe_232 (fun H locs Z => ?_)
              refine lv_aload_n hx hb dX10_pipe_235 rfl (lv_at hl 1 rfl) ?_
              refine lv_iload hx hb dX10_pipe_236 (lv_at hl 0 rfl) ?_
              refine lv_bipush (v := (6 : Int32)) hx hb dX10_pipe_238 (by decide) ?_
              refine lv_iload_n hx hb dX10_pipe_240 rfl (lv_at hl 2 rfl) ?_
              refine lv_iconst (v := (2 : Int32)) hx hb dX10_pipe_241 (by decide) ?_
              obtain ⟨k250, ek250, h⟩ := dw_jnS h
              have J250 : ∀ (x29 : Int32) (H : Heap) (locs : List Loc) (ls : Array Slot), dw_Z Γ (dw_A Γ) s.heap μ28 H locs → lv_has ls 7 [(0, .ref (dw_ad Γ 142)), (4, .int x3), (5, .int x15)] → k250 x29 = some (r, ν) → W p l e (dw_rm 2 45) s m ([.ref (dw_ad Γ 142), .int a1, .int a2, .int a3] : List Value).toArray below meth c H locs 0 0 (MQ below (dw_Qi Γ r ν) ([.ref (dw_ad Γ 142), .int a1, .int a2, .int a3] : List Value).toArray s 0 0 (dw_A Γ)) (F0 m 250 ls [.int x29, .int (6 : Int32), .int x15, .ref (dw_ad Γ 142)]) := by
                clear h
                intro x29 H locs ls Z hl h
                rw [ek250] at h
                dsimp only at h
                obtain ⟨μ31, hc30, h⟩ := dw_bdS h
                refine dw_cVv C0 Z dw_hA (dw_lt dw_kc142 (by decide)) (dw_cz10 dw_kc142) rfl (As := [.int x15, .int (6 : Int32), .int x29]) (rest := []) (kX10_setPipe l Γ hj μ28 x15 (6 : Int32) x29 hc30) (dw_gV tw_lX10_51 tw_vX10_setPipe tw_eX10_setPipe tw_iX10 tw_kX10_setPipe) dw_hX10_setPipe ⟨Nat.le_of_ble_eq_true rfl, Nat.le_of_ble_eq_true rfl⟩ ⟨Nat.zero_le _, Nat.zero_le _⟩ hl.1 (Nat.le_of_ble_eq_true rfl) rfl dX10_pipe_250 (fun H locs Z => ?_)
                refine lv_aload_n hx hb dX10_pipe_253 rfl (lv_at hl 0 rfl) ?_
                refine lv_iload hx hb dX10_pipe_254 (lv_at hl 2 rfl) ?_
                refine lv_bipush (v := (7 : Int32)) hx hb dX10_pipe_256 (by decide) ?_
                refine lv_iconst (v := (-1 : Int32)) hx hb dX10_pipe_258 (by decide) ?_
                obtain ⟨μ33, hc32, h⟩ := dw_bdS h
                refine dw_cVv C0 Z dw_hA (dw_lt dw_kc142 (by decide)) (dw_cz10 dw_kc142) rfl (As := [.int x15, .int (7 : Int32), .int (-1 : Int32)]) (rest := []) (kX10_setPipe l Γ hj μ31 x15 (7 : Int32) (-1 : Int32) hc32) (dw_gV tw_lX10_51 tw_vX10_setPipe tw_eX10_setPipe tw_iX10 tw_kX10_setPipe) dw_hX10_setPipe ⟨Nat.le_of_ble_eq_true rfl, Nat.le_of_ble_eq_true rfl⟩ ⟨Nat.zero_le _, Nat.zero_le _⟩ hl.1 (Nat.le_of_ble_eq_true rfl) rfl dX10_pipe_259 (fun H locs Z => ?_)
                refine lv_aload_n hx hb dX10_pipe_262 rfl (lv_at hl 0 rfl) ?_
                refine lv_iload hx hb dX10_pipe_263 (lv_at hl 2 rfl) ?_
                refine lv_bipush (v := (8 : Int32)) hx hb dX10_pipe_265 (by decide) ?_
                refine lv_iconst (v := (0 : Int32)) hx hb dX10_pipe_267 (by decide) ?_
                obtain ⟨μ35, hc34, h⟩ := dw_bdS h
                refine dw_cVv C0 Z dw_hA (dw_lt dw_kc142 (by decide)) (dw_cz10 dw_kc142) rfl (As := [.int x15, .int (8 : Int32), .int (0 : Int32)]) (rest := []) (kX10_setPipe l Γ hj μ33 x15 (8 : Int32) (0 : Int32) hc34) (dw_gV tw_lX10_51 tw_vX10_setPipe tw_eX10_setPipe tw_iX10 tw_kX10_setPipe) dw_hX10_setPipe ⟨Nat.le_of_ble_eq_true rfl, Nat.le_of_ble_eq_true rfl⟩ ⟨Nat.zero_le _, Nat.zero_le _⟩ hl.1 (Nat.le_of_ble_eq_true rfl) rfl dX10_pipe_268 (fun H locs Z => ?_)
                refine lv_aload_n hx hb dX10_pipe_271 rfl (lv_at hl 0 rfl) ?_
                refine lv_iload hx hb dX10_pipe_272 (lv_at hl 2 rfl) ?_
                refine lv_bipush (v := (9 : Int32)) hx hb dX10_pipe_274 (by decide) ?_
                refine lv_iconst (v := (0 : Int32)) hx hb dX10_pipe_276 (by decide) ?_
                obtain ⟨μ37, hc36, h⟩ := dw_bdS h
                refine dw_cVv C0 Z dw_hA (dw_lt dw_kc142 (by decide)) (dw_cz10 dw_kc142) rfl (As := [.int x15, .int (9 : Int32), .int (0 : Int32)]) (rest := []) (kX10_setPipe l Γ hj μ35 x15 (9 : Int32) (0 : Int32) hc36) (dw_gV tw_lX10_51 tw_vX10_setPipe tw_eX10_setPipe tw_iX10 tw_kX10_setPipe) dw_hX10_setPipe ⟨Nat.le_of_ble_eq_true rfl, Nat.le_of_ble_eq_true rfl⟩ ⟨Nat.zero_le _, Nat.zero_le _⟩ hl.1 (Nat.le_of_ble_eq_true rfl) rfl dX10_pipe_277 (fun H locs Z => ?_)
                refine lv_aload_n hx hb dX10_pipe_280 rfl (lv_at hl 0 rfl) ?_
                refine lv_iload hx hb dX10_pipe_281 (lv_at hl 2 rfl) ?_
                refine lv_bipush (v := (10 : Int32)) hx hb dX10_pipe_283 (by decide) ?_
                refine lv_iconst (v := (0 : Int32)) hx hb dX10_pipe_285 (by decide) ?_
                obtain ⟨μ39, hc38, h⟩ := dw_bdS h
                refine dw_cVv C0 Z dw_hA (dw_lt dw_kc142 (by decide)) (dw_cz10 dw_kc142) rfl (As := [.int x15, .int (10 : Int32), .int (0 : Int32)]) (rest := []) (kX10_setPipe l Γ hj μ37 x15 (10 : Int32) (0 : Int32) hc38) (dw_gV tw_lX10_51 tw_vX10_setPipe tw_eX10_setPipe tw_iX10 tw_kX10_setPipe) dw_hX10_setPipe ⟨Nat.le_of_ble_eq_true rfl, Nat.le_of_ble_eq_true rfl⟩ ⟨Nat.zero_le _, Nat.zero_le _⟩ hl.1 (Nat.le_of_ble_eq_true rfl) rfl dX10_pipe_286 (fun H locs Z => ?_)
                refine lv_aload_n hx hb dX10_pipe_289 rfl (lv_at hl 0 rfl) ?_
                refine lv_iload hx hb dX10_pipe_290 (lv_at hl 2 rfl) ?_
                refine lv_bipush (v := (11 : Int32)) hx hb dX10_pipe_292 (by decide) ?_
                refine lv_iload hx hb dX10_pipe_294 (lv_at hl 1 rfl) ?_
                obtain ⟨μ41, hc40, h⟩ := dw_bdS h
                refine dw_cVv C0 Z dw_hA (dw_lt dw_kc142 (by decide)) (dw_cz10 dw_kc142) rfl (As := [.int x15, .int (11 : Int32), .int x3]) (rest := []) (kX10_setPipe l Γ hj μ39 x15 (11 : Int32) x3 hc40) (dw_gV tw_lX10_51 tw_vX10_setPipe tw_eX10_setPipe tw_iX10 tw_kX10_setPipe) dw_hX10_setPipe ⟨Nat.le_of_ble_eq_true rfl, Nat.le_of_ble_eq_true rfl⟩ ⟨Nat.zero_le _, Nat.zero_le _⟩ hl.1 (Nat.le_of_ble_eq_true rfl) rfl dX10_pipe_296 (fun H locs Z => ?_)
                refine lv_iload hx hb dX10_pipe_299 (lv_at hl 2 rfl) ?_
                obtain ⟨rfl, rfl⟩ := dw_s2 h
                exact dw_iret C0 Z hr hlk dX10_pipe_301
              refine lv_icmp_ne (tgt := 249) hx hb dX10_pipe_242 (by decide) (fun c42 => ?_) (fun c42 => ?_)
              · have h := dw_ifF c42 h
                refine lv_iconst (v := (0 : Int32)) hx hb dX10_pipe_249 (by decide) ?_
                exact J250 (0 : Int32) H locs ls Z (lv_sub hl [1, 5, 0] rfl) h
              · have h := dw_ifT c42 h
                refine lv_iload_n hx hb dX10_pipe_245 rfl (lv_at hl 4 rfl) ?_
                refine lv_goto (tgt := 250) hx hb dX10_pipe_246 (by decide) ?_
                exact J250 a3 H locs ls Z (lv_sub hl [1, 5, 0] rfl) h
            · have h := dw_ifT c14 h
              refine lv_bipush (v := (-2 : Int32)) hx hb dX10_pipe_143 (by decide) ?_
              obtain ⟨rfl, rfl⟩ := dw_s2 h
              exact dw_iret C0 Z hr hlk dX10_pipe_145
          have L54 : ∀ (n54 : Nat) (x5 : Int32) (H : Heap) (locs : List Loc) (ls : Array Slot), dw_Z Γ (dw_A Γ) s.heap μ H locs → lv_has ls 7 [(0, .ref (dw_ad Γ 142)), (1, .int a1), (2, .int a2), (3, .int a3), (4, .int x3), (5, .int x5)] → dw_bd (dw_wh (fun v => sX10_pipe_54 μ x3 v) n54 x5) kc54 = some (r, ν) → W p l e (dw_rm 2 45) s m ([.ref (dw_ad Γ 142), .int a1, .int a2, .int a3] : List Value).toArray below meth c H locs 0 0 (MQ below (dw_Qi Γ r ν) ([.ref (dw_ad Γ 142), .int a1, .int a2, .int a3] : List Value).toArray s 0 0 (dw_A Γ)) (F0 m 54 ls []) := by
            clear h
            intro n54
            induction n54 with
            | zero =>
              intro x5 H locs ls Z hl h
              exact (dw_wh0 h).elim
            | succ n54 ih54 =>
              intro x5 H locs ls Z hl h
              obtain ⟨q54, hs, hq54⟩ := dw_whB h
              have h : sX10_pipe_54 μ x3 x5 = some q54 := hs
              unfold sX10_pipe_54 at h
              refine lv_iload hx hb dX10_pipe_54 (lv_at hl 5 rfl) ?_
              refine lv_iload hx hb dX10_pipe_56 (lv_at hl 4 rfl) ?_
              refine lv_icmp_ge (tgt := 131) hx hb dX10_pipe_58 (by decide) (fun c6 => ?_) (fun c6 => ?_)
              · have h := dw_ifT c6 h
                obtain rfl := dw_s1 h
                exact E54  H locs ls Z (lv_sub hl [0, 1, 2, 3, 4] rfl) hq54
              · have h := dw_ifF c6 h
                refine lv_aload_n hx hb dX10_pipe_61 rfl (lv_at hl 0 rfl) ?_
                refine dw_g10_0 (t := 143) C0 Z dw_kc142 tw_fX10_7 rfl dX10_pipe_62 ?_
                refine lv_iconst (v := (5 : Int32)) hx hb dX10_pipe_65 (by decide) ?_
                refine dw_ald C0 Z dw_kc143 dw_lc143 (by decide) dX10_pipe_66 ?_
                refine lv_iload hx hb dX10_pipe_67 (lv_at hl 5 rfl) ?_
                refine lv_aload_n hx hb dX10_pipe_69 rfl (lv_at hl 0 rfl) ?_
                refine dw_g10_0 (t := 143) C0 Z dw_kc142 tw_fX10_7 rfl dX10_pipe_70 ?_
                refine lv_bipush (v := (6 : Int32)) hx hb dX10_pipe_73 (by decide) ?_
                refine dw_ald C0 Z dw_kc143 dw_lc143 (by decide) dX10_pipe_75 ?_
                refine lv_imul hx hb dX10_pipe_76 ?_
                refine lv_isub hx hb dX10_pipe_77 ?_
                refine lv_topi (fun x7 ex7 => ?_)
                have h := dw_nmS ex7 h
                refine lv_istore (lv' := [(6, .int x7), (0, .ref (dw_ad Γ 142)), (1, .int a1), (2, .int a2), (3, .int a3), (4, .int x3), (5, .int x5)]) hx hb dX10_pipe_78 hl (by decide) rfl (fun ls hl => ?_)
                refine lv_iload hx hb dX10_pipe_80 (lv_at hl 0 rfl) ?_
                refine lv_if_lt (tgt := 119) hx hb dX10_pipe_82 (by decide) (fun c8 => ?_) (fun c8 => ?_)
                · have h := dw_ifT c8 h
                  refine lv_bipush (v := (-100 : Int32)) hx hb dX10_pipe_119 (by decide) ?_
                  refine lv_iload hx hb dX10_pipe_121 (lv_at hl 6 rfl) ?_
                  refine lv_isub hx hb dX10_pipe_123 ?_
                  obtain rfl := dw_s1 h
                  have h := hq54
                  dsimp only at h
                  rw [ekc54] at h
                  dsimp only [Sum.elim] at h
                  obtain ⟨rfl, rfl⟩ := dw_s2 h
                  exact dw_iret C0 Z hr hlk dX10_pipe_124
                · have h := dw_ifF c8 h
                  refine lv_aload_n hx hb dX10_pipe_85 rfl (lv_at hl 1 rfl) ?_
                  refine dw_g10_0 (t := 143) C0 Z dw_kc142 tw_fX10_7 rfl dX10_pipe_86 ?_
                  refine lv_bipush (v := (20 : Int32)) hx hb dX10_pipe_89 (by decide) ?_
                  refine lv_aload_n hx hb dX10_pipe_91 rfl (lv_at hl 1 rfl) ?_
                  refine lv_aload_n hx hb dX10_pipe_92 rfl (lv_at hl 1 rfl) ?_
                  refine dw_g10_0 (t := 143) C0 Z dw_kc142 tw_fX10_7 rfl dX10_pipe_93 ?_
                  refine lv_iconst (v := (3 : Int32)) hx hb dX10_pipe_96 (by decide) ?_
                  refine dw_ald C0 Z dw_kc143 dw_lc143 (by decide) dX10_pipe_97 ?_
                  refine lv_aload_n hx hb dX10_pipe_98 rfl (lv_at hl 1 rfl) ?_
                  refine dw_g10_0 (t := 143) C0 Z dw_kc142 tw_fX10_7 rfl dX10_pipe_99 ?_
                  refine lv_iconst (v := (4 : Int32)) hx hb dX10_pipe_102 (by decide) ?_
                  refine dw_ald C0 Z dw_kc143 dw_lc143 (by decide) dX10_pipe_103 ?_
                  refine lv_iload hx hb dX10_pipe_104 (lv_at hl 6 rfl) ?_
                  obtain ⟨r10, hc9, h⟩ := dw_bdS h
                  refine dw_cVi C0 Z dw_hA (dw_lt dw_kc142 (by decide)) (dw_cz10 dw_kc142) rfl (As := [.int (μ.1 143 (3 : Int32).toNatClampNeg), .int (μ.1 143 (4 : Int32).toNatClampNeg), .int x5]) (rest := [.int (20 : Int32), .ref (dw_ad Γ 143)]) (kX10_placeAt l Γ hj μ (μ.1 143 (3 : Int32).toNatClampNeg) (μ.1 143 (4 : Int32).toNatClampNeg) x5 hc9) (dw_gV tw_lX10_47 tw_vX10_placeAt tw_eX10_placeAt tw_iX10 tw_kX10_placeAt) dw_hX10_placeAt ⟨Nat.le_of_ble_eq_true rfl, Nat.le_of_ble_eq_true rfl⟩ ⟨Nat.zero_le _, Nat.zero_le _⟩ hl.1 (Nat.le_of_ble_eq_true rfl) rfl dX10_pipe_106 (fun H locs Z => ?_)
                  refine lv_iadd hx hb dX10_pipe_109 ?_
                  obtain ⟨g11, h⟩ := dw_gdS h
                  refine dw_ald C0 Z dw_kc143 dw_lc143 g11 dX10_pipe_110 ?_
                  refine lv_iload hx hb dX10_pipe_111 (lv_at hl 0 rfl) ?_
                  refine lv_isub hx hb dX10_pipe_113 ?_
                  refine lv_bipush (v := (60 : Int32)) hx hb dX10_pipe_114 (by decide) ?_
                  refine lv_icmp_ge (tgt := 125) hx hb dX10_pipe_116 (by decide) (fun c12 => ?_) (fun c12 => ?_)
                  · have h := dw_ifT c12 h
                    obtain ⟨x13, ex13⟩ := dw_eg (x5 + (1 : Int32))
                    have h := dw_nmS ex13 h
                    refine lv_iinc (v := x13) (lv' := [(5, .int x13), (6, .int x7), (0, .ref (dw_ad Γ 142)), (1, .int a1), (2, .int a2), (3, .int a3), (4, .int x3)]) hx hb dX10_pipe_125 hl (k := 6) rfl (by rw [ex13]; rfl) (by decide) rfl (fun ls hl => ?_)
                    refine lv_goto (tgt := 54) hx hb dX10_pipe_128 (by decide) ?_
                    obtain rfl := dw_s1 h
                    exact ih54 x13 H locs ls Z (lv_sub hl [2, 3, 4, 5, 6, 0] rfl) hq54
                  · have h := dw_ifF c12 h
                    refine lv_bipush (v := (-100 : Int32)) hx hb dX10_pipe_119 (by decide) ?_
                    refine lv_iload hx hb dX10_pipe_121 (lv_at hl 6 rfl) ?_
                    refine lv_isub hx hb dX10_pipe_123 ?_
                    obtain rfl := dw_s1 h
                    have h := hq54
                    dsimp only at h
                    rw [ekc54] at h
                    dsimp only [Sum.elim] at h
                    obtain ⟨rfl, rfl⟩ := dw_s2 h
                    exact dw_iret C0 Z hr hlk dX10_pipe_124
          exact L54 1000 (0 : Int32) H locs ls Z (lv_sub hl [2, 3, 4, 5, 1, 0] rfl) h
        · have h := dw_ifT c4 h
          refine lv_bipush (v := (-6 : Int32)) hx hb dX10_pipe_48 (by decide) ?_
          obtain ⟨rfl, rfl⟩ := dw_s2 h
          exact dw_iret C0 Z hr hlk dX10_pipe_50
      refine lv_icmp_ne (tgt := 35) hx hb dX10_pipe_20 (by decide) (fun c43 => ?_) (fun c43 => ?_)
      · have h := dw_ifF c43 h
        exact J35 H locs ls Z (lv_sub hl [0, 1, 2, 3] rfl) h
      · have h := dw_ifT c43 h
        refine lv_iload_n hx hb dX10_pipe_23 rfl (lv_at hl 3 rfl) ?_
        refine lv_iconst (v := (1 : Int32)) hx hb dX10_pipe_24 (by decide) ?_
        refine lv_bipush (v := (100 : Int32)) hx hb dX10_pipe_25 (by decide) ?_
        refine dw_cSi C0 Z dw_hA (As := [.int a3, .int (1 : Int32), .int (100 : Int32)]) (rest := []) (kX10_in l Γ hj μ a3 (1 : Int32) (100 : Int32) rfl) (dw_gS tw_lX10_29 tw_sX10_in tw_iX10 tw_kX10_in) dw_hX10_in ⟨Nat.le_of_ble_eq_true rfl, Nat.le_of_ble_eq_true rfl⟩ ⟨Nat.zero_le _, Nat.zero_le _⟩ hl.1 (Nat.le_of_ble_eq_true rfl) rfl dX10_pipe_27 (fun H locs Z => ?_)
        refine lv_if_ne (tgt := 35) hx hb dX10_pipe_30 (by decide) (fun c44 => ?_) (fun c44 => ?_)
        · have h := dw_ifF c44 h
          exact J35 H locs ls Z (lv_sub hl [0, 1, 2, 3] rfl) h
        · have h := dw_ifT c44 h
          refine lv_iconst (v := (-1 : Int32)) hx hb dX10_pipe_33 (by decide) ?_
          obtain ⟨rfl, rfl⟩ := dw_s2 h
          exact dw_iret C0 Z hr hlk dX10_pipe_34

def fX10_stepPlace (μ : dw_M) (a1 : Int32) (a2 : Int32) : Option (Int32) :=
  dw_bd (fX10_pipeOf μ a1 (1 : Int32)) (fun r2 =>
  dw_bd (fX10_pipeOf μ a1 (2 : Int32)) (fun r4 =>
  dw_bd (fX10_placeAt μ r2 r4 a2) (fun r6 =>
  some r6)))
set_option maxHeartbeats 4000000 in
set_option maxRecDepth 100000 in
theorem kX10_stepPlace (l : Launch) (Γ : dw_G) (hj : dw_inj Γ) (μ : dw_M) (a1 : Int32) (a2 : Int32) {r : Int32} (h : fX10_stepPlace μ a1 a2 = some r) : Met l yX10_stepPlace (dw_ws yX10_stepPlace cX10_stepPlace 3 (some .int)) (dw_rm 2 45) (dw_P Γ ([.ref (dw_ad Γ 142), .int a1, .int a2] : List Value) μ) (dw_Qi Γ r μ) 0 0 (dw_A Γ) := by
  refine dw_met (own := RX10) rfl rfl (Nat.le_of_ble_eq_true rfl) hj ?_
  intro p e s m below meth c C0 hr hlk Z ls hl
  have hx := C0.1
  have hb := C0.2.1
  have hl : lv_has ls 3 [(0, .ref (dw_ad Γ 142)), (1, .int a1), (2, .int a2)] := hl
  suffices key : ∀ (H : Heap) (locs : List Loc), dw_Z Γ (dw_A Γ) s.heap μ H locs → W p l e (dw_rm 2 45) s m ([.ref (dw_ad Γ 142), .int a1, .int a2] : List Value).toArray below meth c H locs 0 0 (MQ below (dw_Qi Γ r μ) ([.ref (dw_ad Γ 142), .int a1, .int a2] : List Value).toArray s 0 0 (dw_A Γ)) (F0 m 0 ls []) from key _ _ Z
  clear Z
  intro H locs Z
  unfold fX10_stepPlace at h
  refine lv_aload_n hx hb dX10_stepPlace_0 rfl (lv_at hl 0 rfl) ?_
  refine lv_aload_n hx hb dX10_stepPlace_1 rfl (lv_at hl 0 rfl) ?_
  refine lv_iload_n hx hb dX10_stepPlace_2 rfl (lv_at hl 1 rfl) ?_
  refine lv_iconst (v := (1 : Int32)) hx hb dX10_stepPlace_3 (by decide) ?_
  obtain ⟨r2, hc1, h⟩ := dw_bdS h
  refine dw_cVi C0 Z dw_hA (dw_lt dw_kc142 (by decide)) (dw_cz10 dw_kc142) rfl (As := [.int a1, .int (1 : Int32)]) (rest := [.ref (dw_ad Γ 142)]) (kX10_pipeOf l Γ hj μ a1 (1 : Int32) hc1) (dw_gV tw_lX10_55 tw_vX10_pipeOf tw_eX10_pipeOf tw_iX10 tw_kX10_pipeOf) dw_hX10_pipeOf ⟨Nat.le_of_ble_eq_true rfl, Nat.le_of_ble_eq_true rfl⟩ ⟨Nat.zero_le _, Nat.zero_le _⟩ hl.1 (Nat.le_of_ble_eq_true rfl) rfl dX10_stepPlace_4 (fun H locs Z => ?_)
  refine lv_aload_n hx hb dX10_stepPlace_7 rfl (lv_at hl 0 rfl) ?_
  refine lv_iload_n hx hb dX10_stepPlace_8 rfl (lv_at hl 1 rfl) ?_
  refine lv_iconst (v := (2 : Int32)) hx hb dX10_stepPlace_9 (by decide) ?_
  obtain ⟨r4, hc3, h⟩ := dw_bdS h
  refine dw_cVi C0 Z dw_hA (dw_lt dw_kc142 (by decide)) (dw_cz10 dw_kc142) rfl (As := [.int a1, .int (2 : Int32)]) (rest := [.int r2, .ref (dw_ad Γ 142)]) (kX10_pipeOf l Γ hj μ a1 (2 : Int32) hc3) (dw_gV tw_lX10_55 tw_vX10_pipeOf tw_eX10_pipeOf tw_iX10 tw_kX10_pipeOf) dw_hX10_pipeOf ⟨Nat.le_of_ble_eq_true rfl, Nat.le_of_ble_eq_true rfl⟩ ⟨Nat.zero_le _, Nat.zero_le _⟩ hl.1 (Nat.le_of_ble_eq_true rfl) rfl dX10_stepPlace_10 (fun H locs Z => ?_)
  refine lv_iload_n hx hb dX10_stepPlace_13 rfl (lv_at hl 2 rfl) ?_
  obtain ⟨r6, hc5, h⟩ := dw_bdS h
  refine dw_cVi C0 Z dw_hA (dw_lt dw_kc142 (by decide)) (dw_cz10 dw_kc142) rfl (As := [.int r2, .int r4, .int a2]) (rest := []) (kX10_placeAt l Γ hj μ r2 r4 a2 hc5) (dw_gV tw_lX10_47 tw_vX10_placeAt tw_eX10_placeAt tw_iX10 tw_kX10_placeAt) dw_hX10_placeAt ⟨Nat.le_of_ble_eq_true rfl, Nat.le_of_ble_eq_true rfl⟩ ⟨Nat.zero_le _, Nat.zero_le _⟩ hl.1 (Nat.le_of_ble_eq_true rfl) rfl dX10_stepPlace_14 (fun H locs Z => ?_)
  obtain rfl := dw_s1 h
  exact dw_iret C0 Z hr hlk dX10_stepPlace_17

def fX10_levelAt (μ : dw_M) (a1 : Int32) (a2 : Int32) : Option (Int32) :=
  dw_bd (fX10_pipeOf μ a1 (3 : Int32)) (fun r2 =>
  dw_bd (fX10_pipeOf μ a1 (4 : Int32)) (fun r4 =>
  some (r2 - (a2 * r4))))
set_option maxHeartbeats 4000000 in
set_option maxRecDepth 100000 in
theorem kX10_levelAt (l : Launch) (Γ : dw_G) (hj : dw_inj Γ) (μ : dw_M) (a1 : Int32) (a2 : Int32) {r : Int32} (h : fX10_levelAt μ a1 a2 = some r) : Met l yX10_levelAt (dw_ws yX10_levelAt cX10_levelAt 3 (some .int)) (dw_rm 1 22) (dw_P Γ ([.ref (dw_ad Γ 142), .int a1, .int a2] : List Value) μ) (dw_Qi Γ r μ) 0 0 (dw_A Γ) := by
  refine dw_met (own := RX10) rfl rfl (Nat.le_of_ble_eq_true rfl) hj ?_
  intro p e s m below meth c C0 hr hlk Z ls hl
  have hx := C0.1
  have hb := C0.2.1
  have hl : lv_has ls 3 [(0, .ref (dw_ad Γ 142)), (1, .int a1), (2, .int a2)] := hl
  suffices key : ∀ (H : Heap) (locs : List Loc), dw_Z Γ (dw_A Γ) s.heap μ H locs → W p l e (dw_rm 1 22) s m ([.ref (dw_ad Γ 142), .int a1, .int a2] : List Value).toArray below meth c H locs 0 0 (MQ below (dw_Qi Γ r μ) ([.ref (dw_ad Γ 142), .int a1, .int a2] : List Value).toArray s 0 0 (dw_A Γ)) (F0 m 0 ls []) from key _ _ Z
  clear Z
  intro H locs Z
  unfold fX10_levelAt at h
  refine lv_aload_n hx hb dX10_levelAt_0 rfl (lv_at hl 0 rfl) ?_
  refine lv_iload_n hx hb dX10_levelAt_1 rfl (lv_at hl 1 rfl) ?_
  refine lv_iconst (v := (3 : Int32)) hx hb dX10_levelAt_2 (by decide) ?_
  obtain ⟨r2, hc1, h⟩ := dw_bdS h
  refine dw_cVi C0 Z dw_hA (dw_lt dw_kc142 (by decide)) (dw_cz10 dw_kc142) rfl (As := [.int a1, .int (3 : Int32)]) (rest := []) (kX10_pipeOf l Γ hj μ a1 (3 : Int32) hc1) (dw_gV tw_lX10_55 tw_vX10_pipeOf tw_eX10_pipeOf tw_iX10 tw_kX10_pipeOf) dw_hX10_pipeOf ⟨Nat.le_of_ble_eq_true rfl, Nat.le_of_ble_eq_true rfl⟩ ⟨Nat.zero_le _, Nat.zero_le _⟩ hl.1 (Nat.le_of_ble_eq_true rfl) rfl dX10_levelAt_3 (fun H locs Z => ?_)
  refine lv_iload_n hx hb dX10_levelAt_6 rfl (lv_at hl 2 rfl) ?_
  refine lv_aload_n hx hb dX10_levelAt_7 rfl (lv_at hl 0 rfl) ?_
  refine lv_iload_n hx hb dX10_levelAt_8 rfl (lv_at hl 1 rfl) ?_
  refine lv_iconst (v := (4 : Int32)) hx hb dX10_levelAt_9 (by decide) ?_
  obtain ⟨r4, hc3, h⟩ := dw_bdS h
  refine dw_cVi C0 Z dw_hA (dw_lt dw_kc142 (by decide)) (dw_cz10 dw_kc142) rfl (As := [.int a1, .int (4 : Int32)]) (rest := [.int a2, .int r2]) (kX10_pipeOf l Γ hj μ a1 (4 : Int32) hc3) (dw_gV tw_lX10_55 tw_vX10_pipeOf tw_eX10_pipeOf tw_iX10 tw_kX10_pipeOf) dw_hX10_pipeOf ⟨Nat.le_of_ble_eq_true rfl, Nat.le_of_ble_eq_true rfl⟩ ⟨Nat.zero_le _, Nat.zero_le _⟩ hl.1 (Nat.le_of_ble_eq_true rfl) rfl dX10_levelAt_10 (fun H locs Z => ?_)
  refine lv_imul hx hb dX10_levelAt_13 ?_
  refine lv_isub hx hb dX10_levelAt_14 ?_
  obtain rfl := dw_s1 h
  exact dw_iret C0 Z hr hlk dX10_levelAt_15

def sX10_stepOf_5 (μ : dw_M) (a1 : Int32) (a2 : Int32) (x1 : Int32) (x2 : Int32) : Option ((Int32 × Int32) ⊕ ((Int32))) :=
  dw_bd (fX10_pipeOf μ a1 (11 : Int32)) (fun r4 =>
  if r4 ≤ x2 then (
  some (.inr x1))
  else (
  dw_bd (fX10_stepPlace μ a1 x2) (fun r7 =>
  if r7 = a2 then (
  dw_nm (x2 + (1 : Int32)) (fun x10 =>
  some (.inl (x2, x10))))
  else (
  dw_nm (x2 + (1 : Int32)) (fun x9 =>
  some (.inl (x1, x9)))))))
def fX10_stepOf (μ : dw_M) (a1 : Int32) (a2 : Int32) : Option (Int32) :=
  dw_bd (dw_wh (fun v => sX10_stepOf_5 μ a1 a2 v.1 v.2) 1000 ((-1 : Int32), (0 : Int32)))
    (fun x11 => some x11)
set_option maxHeartbeats 4000000 in
set_option maxRecDepth 100000 in
theorem kX10_stepOf (l : Launch) (Γ : dw_G) (hj : dw_inj Γ) (μ : dw_M) (a1 : Int32) (a2 : Int32) {r : Int32} (h : fX10_stepOf μ a1 a2 = some r) : Met l yX10_stepOf (dw_ws yX10_stepOf cX10_stepOf 5 (some .int)) (dw_rm 3 67) (dw_P Γ ([.ref (dw_ad Γ 142), .int a1, .int a2] : List Value) μ) (dw_Qi Γ r μ) 0 0 (dw_A Γ) := by
  refine dw_met (own := RX10) rfl rfl (Nat.le_of_ble_eq_true rfl) hj ?_
  intro p e s m below meth c C0 hr hlk Z ls hl
  have hx := C0.1
  have hb := C0.2.1
  have hl : lv_has ls 5 [(0, .ref (dw_ad Γ 142)), (1, .int a1), (2, .int a2)] := hl
  suffices key : ∀ (H : Heap) (locs : List Loc), dw_Z Γ (dw_A Γ) s.heap μ H locs → W p l e (dw_rm 3 67) s m ([.ref (dw_ad Γ 142), .int a1, .int a2] : List Value).toArray below meth c H locs 0 0 (MQ below (dw_Qi Γ r μ) ([.ref (dw_ad Γ 142), .int a1, .int a2] : List Value).toArray s 0 0 (dw_A Γ)) (F0 m 0 ls []) from key _ _ Z
  clear Z
  intro H locs Z
  unfold fX10_stepOf at h
  refine lv_iconst (v := (-1 : Int32)) hx hb dX10_stepOf_0 (by decide) ?_
  refine lv_istore_n (lv' := [(3, .int (-1 : Int32)), (0, .ref (dw_ad Γ 142)), (1, .int a1), (2, .int a2)]) hx hb dX10_stepOf_1 rfl hl (by decide) rfl (fun ls hl => ?_)
  refine lv_iconst (v := (0 : Int32)) hx hb dX10_stepOf_2 (by decide) ?_
  refine lv_istore (lv' := [(4, .int (0 : Int32)), (3, .int (-1 : Int32)), (0, .ref (dw_ad Γ 142)), (1, .int a1), (2, .int a2)]) hx hb dX10_stepOf_3 hl (by decide) rfl (fun ls hl => ?_)
  obtain ⟨kc5, ekc5, h⟩ := dw_bdK h
  have E5 : ∀ (x11 : Int32) (H : Heap) (locs : List Loc) (ls : Array Slot), dw_Z Γ (dw_A Γ) s.heap μ H locs → lv_has ls 5 [(3, .int x11)] → kc5 x11 = some r → W p l e (dw_rm 3 67) s m ([.ref (dw_ad Γ 142), .int a1, .int a2] : List Value).toArray below meth c H locs 0 0 (MQ below (dw_Qi Γ r μ) ([.ref (dw_ad Γ 142), .int a1, .int a2] : List Value).toArray s 0 0 (dw_A Γ)) (F0 m 41 ls []) := by
    intro x11 H locs ls Z hl h
    rw [ekc5] at h
    dsimp only at h
    refine lv_iload_n hx hb dX10_stepOf_41 rfl (lv_at hl 0 rfl) ?_
    obtain rfl := dw_s1 h
    exact dw_iret C0 Z hr hlk dX10_stepOf_42
  have L5 : ∀ (n5 : Nat) (x1 : Int32) (x2 : Int32) (H : Heap) (locs : List Loc) (ls : Array Slot), dw_Z Γ (dw_A Γ) s.heap μ H locs → lv_has ls 5 [(0, .ref (dw_ad Γ 142)), (1, .int a1), (2, .int a2), (3, .int x1), (4, .int x2)] → dw_bd (dw_wh (fun v => sX10_stepOf_5 μ a1 a2 v.1 v.2) n5 (x1, x2)) kc5 = some r → W p l e (dw_rm 3 67) s m ([.ref (dw_ad Γ 142), .int a1, .int a2] : List Value).toArray below meth c H locs 0 0 (MQ below (dw_Qi Γ r μ) ([.ref (dw_ad Γ 142), .int a1, .int a2] : List Value).toArray s 0 0 (dw_A Γ)) (F0 m 5 ls []) := by
    clear h
    intro n5
    induction n5 with
    | zero =>
      intro x1 x2 H locs ls Z hl h
      exact (dw_wh0 h).elim
    | succ n5 ih5 =>
      intro x1 x2 H locs ls Z hl h
      obtain ⟨q5, hs, hq5⟩ := dw_whB h
      have h : sX10_stepOf_5 μ a1 a2 x1 x2 = some q5 := hs
      unfold sX10_stepOf_5 at h
      refine lv_iload hx hb dX10_stepOf_5 (lv_at hl 4 rfl) ?_
      refine lv_aload_n hx hb dX10_stepOf_7 rfl (lv_at hl 0 rfl) ?_
      refine lv_iload_n hx hb dX10_stepOf_8 rfl (lv_at hl 1 rfl) ?_
      refine lv_bipush (v := (11 : Int32)) hx hb dX10_stepOf_9 (by decide) ?_
      obtain ⟨r4, hc3, h⟩ := dw_bdS h
      refine dw_cVi C0 Z dw_hA (dw_lt dw_kc142 (by decide)) (dw_cz10 dw_kc142) rfl (As := [.int a1, .int (11 : Int32)]) (rest := [.int x2]) (kX10_pipeOf l Γ hj μ a1 (11 : Int32) hc3) (dw_gV tw_lX10_55 tw_vX10_pipeOf tw_eX10_pipeOf tw_iX10 tw_kX10_pipeOf) dw_hX10_pipeOf ⟨Nat.le_of_ble_eq_true rfl, Nat.le_of_ble_eq_true rfl⟩ ⟨Nat.zero_le _, Nat.zero_le _⟩ hl.1 (Nat.le_of_ble_eq_true rfl) rfl dX10_stepOf_11 (fun H locs Z => ?_)
      refine lv_icmp_ge (tgt := 41) hx hb dX10_stepOf_14 (by decide) (fun c5 => ?_) (fun c5 => ?_)
      · have h := dw_ifT c5 h
        obtain rfl := dw_s1 h
        exact E5 x1 H locs ls Z (lv_sub hl [3] rfl) hq5
      · have h := dw_ifF c5 h
        refine lv_aload_n hx hb dX10_stepOf_17 rfl (lv_at hl 0 rfl) ?_
        refine lv_iload_n hx hb dX10_stepOf_18 rfl (lv_at hl 1 rfl) ?_
        refine lv_iload hx hb dX10_stepOf_19 (lv_at hl 4 rfl) ?_
        obtain ⟨r7, hc6, h⟩ := dw_bdS h
        refine dw_cVi C0 Z dw_hA (dw_lt dw_kc142 (by decide)) (dw_cz10 dw_kc142) rfl (As := [.int a1, .int x2]) (rest := []) (kX10_stepPlace l Γ hj μ a1 x2 hc6) (dw_gV tw_lX10_59 tw_vX10_stepPlace tw_eX10_stepPlace tw_iX10 tw_kX10_stepPlace) dw_hX10_stepPlace ⟨Nat.le_of_ble_eq_true rfl, Nat.le_of_ble_eq_true rfl⟩ ⟨Nat.zero_le _, Nat.zero_le _⟩ hl.1 (Nat.le_of_ble_eq_true rfl) rfl dX10_stepOf_21 (fun H locs Z => ?_)
        refine lv_iload_n hx hb dX10_stepOf_24 rfl (lv_at hl 2 rfl) ?_
        refine lv_icmp_ne (tgt := 33) hx hb dX10_stepOf_25 (by decide) (fun c8 => ?_) (fun c8 => ?_)
        · have h := dw_ifF c8 h
          refine lv_iload_n hx hb dX10_stepOf_33 rfl (lv_at hl 3 rfl) ?_
          refine lv_istore_n (lv' := [(3, .int x1), (0, .ref (dw_ad Γ 142)), (1, .int a1), (2, .int a2), (4, .int x2)]) hx hb dX10_stepOf_34 rfl hl (by decide) rfl (fun ls hl => ?_)
          obtain ⟨x9, ex9⟩ := dw_eg (x2 + (1 : Int32))
          have h := dw_nmS ex9 h
          refine lv_iinc (v := x9) (lv' := [(4, .int x9), (3, .int x1), (0, .ref (dw_ad Γ 142)), (1, .int a1), (2, .int a2)]) hx hb dX10_stepOf_35 hl (k := 4) rfl (by rw [ex9]; rfl) (by decide) rfl (fun ls hl => ?_)
          refine lv_goto (tgt := 5) hx hb dX10_stepOf_38 (by decide) ?_
          obtain rfl := dw_s1 h
          exact ih5 x1 x9 H locs ls Z (lv_sub hl [2, 3, 4, 1, 0] rfl) hq5
        · have h := dw_ifT c8 h
          refine lv_iload hx hb dX10_stepOf_28 (lv_at hl 4 rfl) ?_
          refine lv_goto (tgt := 34) hx hb dX10_stepOf_30 (by decide) ?_
          refine lv_istore_n (lv' := [(3, .int x2), (0, .ref (dw_ad Γ 142)), (1, .int a1), (2, .int a2), (4, .int x2)]) hx hb dX10_stepOf_34 rfl hl (by decide) rfl (fun ls hl => ?_)
          obtain ⟨x10, ex10⟩ := dw_eg (x2 + (1 : Int32))
          have h := dw_nmS ex10 h
          refine lv_iinc (v := x10) (lv' := [(4, .int x10), (3, .int x2), (0, .ref (dw_ad Γ 142)), (1, .int a1), (2, .int a2)]) hx hb dX10_stepOf_35 hl (k := 4) rfl (by rw [ex10]; rfl) (by decide) rfl (fun ls hl => ?_)
          refine lv_goto (tgt := 5) hx hb dX10_stepOf_38 (by decide) ?_
          obtain rfl := dw_s1 h
          exact ih5 x2 x10 H locs ls Z (lv_sub hl [2, 3, 4, 1, 0] rfl) hq5
  exact L5 1000 (-1 : Int32) (0 : Int32) H locs ls Z (lv_sub hl [2, 3, 4, 1, 0] rfl) h

def sX10_rank_10 (μ : dw_M) (x3 : Int32) (x4 : Int32) : Option ((Int32 × Int32) ⊕ ((Int32))) :=
  if x4 < 0 then (
  some (.inr x3))
  else (
  if (100 : Int32) ≤ x4 then (
  some (.inr x3))
  else (
  dw_nm (x3 + (1 : Int32)) (fun x7 =>
  dw_bd (fX10_pipeOf μ x4 (7 : Int32)) (fun r9 =>
  some (.inl (x7, r9))))))
def fX10_rank (μ : dw_M) (a1 : Int32) : Option (Int32) :=
  dw_bd (fX10_pipeOf μ a1 (7 : Int32)) (fun r2 =>
  dw_bd (dw_wh (fun v => sX10_rank_10 μ v.1 v.2) 1000 ((0 : Int32), r2))
    (fun x10 => some x10))
set_option maxHeartbeats 4000000 in
set_option maxRecDepth 100000 in
theorem kX10_rank (l : Launch) (Γ : dw_G) (hj : dw_inj Γ) (μ : dw_M) (a1 : Int32) {r : Int32} (h : fX10_rank μ a1 = some r) : Met l yX10_rank (dw_ws yX10_rank cX10_rank 4 (some .int)) (dw_rm 1 22) (dw_P Γ ([.ref (dw_ad Γ 142), .int a1] : List Value) μ) (dw_Qi Γ r μ) 0 0 (dw_A Γ) := by
  refine dw_met (own := RX10) rfl rfl (Nat.le_of_ble_eq_true rfl) hj ?_
  intro p e s m below meth c C0 hr hlk Z ls hl
  have hx := C0.1
  have hb := C0.2.1
  have hl : lv_has ls 4 [(0, .ref (dw_ad Γ 142)), (1, .int a1)] := hl
  suffices key : ∀ (H : Heap) (locs : List Loc), dw_Z Γ (dw_A Γ) s.heap μ H locs → W p l e (dw_rm 1 22) s m ([.ref (dw_ad Γ 142), .int a1] : List Value).toArray below meth c H locs 0 0 (MQ below (dw_Qi Γ r μ) ([.ref (dw_ad Γ 142), .int a1] : List Value).toArray s 0 0 (dw_A Γ)) (F0 m 0 ls []) from key _ _ Z
  clear Z
  intro H locs Z
  unfold fX10_rank at h
  refine lv_iconst (v := (0 : Int32)) hx hb dX10_rank_0 (by decide) ?_
  refine lv_istore_n (lv' := [(2, .int (0 : Int32)), (0, .ref (dw_ad Γ 142)), (1, .int a1)]) hx hb dX10_rank_1 rfl hl (by decide) rfl (fun ls hl => ?_)
  refine lv_aload_n hx hb dX10_rank_2 rfl (lv_at hl 1 rfl) ?_
  refine lv_iload_n hx hb dX10_rank_3 rfl (lv_at hl 2 rfl) ?_
  refine lv_bipush (v := (7 : Int32)) hx hb dX10_rank_4 (by decide) ?_
  obtain ⟨r2, hc1, h⟩ := dw_bdS h
  refine dw_cVi C0 Z dw_hA (dw_lt dw_kc142 (by decide)) (dw_cz10 dw_kc142) rfl (As := [.int a1, .int (7 : Int32)]) (rest := []) (kX10_pipeOf l Γ hj μ a1 (7 : Int32) hc1) (dw_gV tw_lX10_55 tw_vX10_pipeOf tw_eX10_pipeOf tw_iX10 tw_kX10_pipeOf) dw_hX10_pipeOf ⟨Nat.le_of_ble_eq_true rfl, Nat.le_of_ble_eq_true rfl⟩ ⟨Nat.zero_le _, Nat.zero_le _⟩ hl.1 (Nat.le_of_ble_eq_true rfl) rfl dX10_rank_6 (fun H locs Z => ?_)
  refine lv_istore_n (lv' := [(3, .int r2), (2, .int (0 : Int32)), (0, .ref (dw_ad Γ 142)), (1, .int a1)]) hx hb dX10_rank_9 rfl hl (by decide) rfl (fun ls hl => ?_)
  obtain ⟨kc10, ekc10, h⟩ := dw_bdK h
  have E10 : ∀ (x10 : Int32) (H : Heap) (locs : List Loc) (ls : Array Slot), dw_Z Γ (dw_A Γ) s.heap μ H locs → lv_has ls 4 [(2, .int x10)] → kc10 x10 = some r → W p l e (dw_rm 1 22) s m ([.ref (dw_ad Γ 142), .int a1] : List Value).toArray below meth c H locs 0 0 (MQ below (dw_Qi Γ r μ) ([.ref (dw_ad Γ 142), .int a1] : List Value).toArray s 0 0 (dw_A Γ)) (F0 m 34 ls []) := by
    intro x10 H locs ls Z hl h
    rw [ekc10] at h
    dsimp only at h
    refine lv_iload_n hx hb dX10_rank_34 rfl (lv_at hl 0 rfl) ?_
    obtain rfl := dw_s1 h
    exact dw_iret C0 Z hr hlk dX10_rank_35
  have L10 : ∀ (n10 : Nat) (x3 : Int32) (x4 : Int32) (H : Heap) (locs : List Loc) (ls : Array Slot), dw_Z Γ (dw_A Γ) s.heap μ H locs → lv_has ls 4 [(0, .ref (dw_ad Γ 142)), (2, .int x3), (3, .int x4)] → dw_bd (dw_wh (fun v => sX10_rank_10 μ v.1 v.2) n10 (x3, x4)) kc10 = some r → W p l e (dw_rm 1 22) s m ([.ref (dw_ad Γ 142), .int a1] : List Value).toArray below meth c H locs 0 0 (MQ below (dw_Qi Γ r μ) ([.ref (dw_ad Γ 142), .int a1] : List Value).toArray s 0 0 (dw_A Γ)) (F0 m 10 ls []) := by
    clear h
    intro n10
    induction n10 with
    | zero =>
      intro x3 x4 H locs ls Z hl h
      exact (dw_wh0 h).elim
    | succ n10 ih10 =>
      intro x3 x4 H locs ls Z hl h
      obtain ⟨q10, hs, hq10⟩ := dw_whB h
      have h : sX10_rank_10 μ x3 x4 = some q10 := hs
      unfold sX10_rank_10 at h
      refine lv_iload_n hx hb dX10_rank_10 rfl (lv_at hl 2 rfl) ?_
      refine lv_if_lt (tgt := 34) hx hb dX10_rank_11 (by decide) (fun c5 => ?_) (fun c5 => ?_)
      · have h := dw_ifT c5 h
        obtain rfl := dw_s1 h
        exact E10 x3 H locs ls Z (lv_sub hl [1] rfl) hq10
      · have h := dw_ifF c5 h
        refine lv_iload_n hx hb dX10_rank_14 rfl (lv_at hl 2 rfl) ?_
        refine lv_bipush (v := (100 : Int32)) hx hb dX10_rank_15 (by decide) ?_
        refine lv_icmp_ge (tgt := 34) hx hb dX10_rank_17 (by decide) (fun c6 => ?_) (fun c6 => ?_)
        · have h := dw_ifT c6 h
          obtain rfl := dw_s1 h
          exact E10 x3 H locs ls Z (lv_sub hl [1] rfl) hq10
        · have h := dw_ifF c6 h
          obtain ⟨x7, ex7⟩ := dw_eg (x3 + (1 : Int32))
          have h := dw_nmS ex7 h
          refine lv_iinc (v := x7) (lv' := [(2, .int x7), (0, .ref (dw_ad Γ 142)), (3, .int x4)]) hx hb dX10_rank_20 hl (k := 1) rfl (by rw [ex7]; rfl) (by decide) rfl (fun ls hl => ?_)
          refine lv_aload_n hx hb dX10_rank_23 rfl (lv_at hl 1 rfl) ?_
          refine lv_iload_n hx hb dX10_rank_24 rfl (lv_at hl 2 rfl) ?_
          refine lv_bipush (v := (7 : Int32)) hx hb dX10_rank_25 (by decide) ?_
          obtain ⟨r9, hc8, h⟩ := dw_bdS h
          refine dw_cVi C0 Z dw_hA (dw_lt dw_kc142 (by decide)) (dw_cz10 dw_kc142) rfl (As := [.int x4, .int (7 : Int32)]) (rest := []) (kX10_pipeOf l Γ hj μ x4 (7 : Int32) hc8) (dw_gV tw_lX10_55 tw_vX10_pipeOf tw_eX10_pipeOf tw_iX10 tw_kX10_pipeOf) dw_hX10_pipeOf ⟨Nat.le_of_ble_eq_true rfl, Nat.le_of_ble_eq_true rfl⟩ ⟨Nat.zero_le _, Nat.zero_le _⟩ hl.1 (Nat.le_of_ble_eq_true rfl) rfl dX10_rank_27 (fun H locs Z => ?_)
          refine lv_istore_n (lv' := [(3, .int r9), (2, .int x7), (0, .ref (dw_ad Γ 142))]) hx hb dX10_rank_30 rfl hl (by decide) rfl (fun ls hl => ?_)
          refine lv_goto (tgt := 10) hx hb dX10_rank_31 (by decide) ?_
          obtain rfl := dw_s1 h
          exact ih10 x7 r9 H locs ls Z (lv_sub hl [2, 1, 0] rfl) hq10
  exact L10 1000 (0 : Int32) r2 H locs ls Z (lv_sub hl [2, 1, 0] rfl) h

def sX10_join_92 (μ : dw_M) (a1 : Int32) (x22 : Int32) : Option ((Int32) ⊕ ((Unit) ⊕ (Int32 × dw_M))) :=
  if x22 < 0 then (
  some (.inr (.inl ())))
  else (
  if (100 : Int32) ≤ x22 then (
  some (.inr (.inl ())))
  else (
  if x22 = a1 then (
  some (.inr (.inr ((-5 : Int32), μ))))
  else (
  dw_bd (fX10_pipeOf μ x22 (7 : Int32)) (fun r27 =>
  some (.inl r27)))))
def fX10_join (μ : dw_M) (a1 : Int32) (a2 : Int32) : Option (Int32 × dw_M) :=
  if (fX10_isPipe μ a1) = 0 then (
  some ((-1 : Int32), μ))
  else (
  if (fX10_isPipe μ a2) = 0 then (
  some ((-1 : Int32), μ))
  else (
  dw_bd (fX10_pipeOf μ a1 (11 : Int32)) (fun r4 =>
  dw_nm (r4 - (1 : Int32)) (fun x5 =>
  dw_bd (fX10_stepPlace μ a1 x5) (fun r7 =>
  dw_bd (fX10_stepOf μ a2 r7) (fun r9 =>
  dw_bd (fX10_pipeOf μ a1 (0 : Int32)) (fun r11 =>
  if r11 = (3 : Int32) then (
  some ((-3 : Int32), μ))
  else (
  dw_bd (fX10_pipeOf μ a2 (0 : Int32)) (fun r14 =>
  if (dw_re r14 (2 : Int32)) = 0 then (
  some ((-3 : Int32), μ))
  else (
  if 0 ≤ r9 then (
  dw_bd (fX10_levelAt μ a1 x5) (fun r18 =>
  dw_bd (fX10_levelAt μ a2 r9) (fun r20 =>
  if r20 ≤ r18 then (
  dw_bd (dw_wh (fun v => sX10_join_92 μ a1 v) 1000 a2)
    (Sum.elim (fun _ => dw_bd (fX10_setPipe μ a1 (7 : Int32) a2) (fun μ29 =>
  dw_bd (fX10_rank μ29 a1) (fun r31 =>
  some (r31, μ29)))) (fun r => some r)))
  else (
  some ((-4 : Int32), μ)))))
  else (
  some ((-3 : Int32), μ))))))))))))
set_option maxHeartbeats 4000000 in
set_option maxRecDepth 100000 in
theorem kX10_join (l : Launch) (Γ : dw_G) (hj : dw_inj Γ) (μ : dw_M) (a1 : Int32) (a2 : Int32) {r : Int32} {ν : dw_M} (h : fX10_join μ a1 a2 = some (r, ν)) : Met l yX10_join (dw_ws yX10_join cX10_join 6 (some .int)) (dw_rm 4 91) (dw_P Γ ([.ref (dw_ad Γ 142), .int a1, .int a2] : List Value) μ) (dw_Qi Γ r ν) 0 0 (dw_A Γ) := by
  refine dw_met (own := RX10) rfl rfl (Nat.le_of_ble_eq_true rfl) hj ?_
  intro p e s m below meth c C0 hr hlk Z ls hl
  have hx := C0.1
  have hb := C0.2.1
  have hl : lv_has ls 6 [(0, .ref (dw_ad Γ 142)), (1, .int a1), (2, .int a2)] := hl
  suffices key : ∀ (H : Heap) (locs : List Loc), dw_Z Γ (dw_A Γ) s.heap μ H locs → W p l e (dw_rm 4 91) s m ([.ref (dw_ad Γ 142), .int a1, .int a2] : List Value).toArray below meth c H locs 0 0 (MQ below (dw_Qi Γ r ν) ([.ref (dw_ad Γ 142), .int a1, .int a2] : List Value).toArray s 0 0 (dw_A Γ)) (F0 m 0 ls []) from key _ _ Z
  clear Z
  intro H locs Z
  unfold fX10_join at h
  refine lv_aload_n hx hb dX10_join_0 rfl (lv_at hl 0 rfl) ?_
  refine lv_iload_n hx hb dX10_join_1 rfl (lv_at hl 1 rfl) ?_
  refine dw_cVi C0 Z dw_hA (dw_lt dw_kc142 (by decide)) (dw_cz10 dw_kc142) rfl (As := [.int a1]) (rest := []) (kX10_isPipe l Γ hj μ a1 rfl) (dw_gV tw_lX10_62 tw_vX10_isPipe tw_eX10_isPipe tw_iX10 tw_kX10_isPipe) dw_hX10_isPipe ⟨Nat.le_of_ble_eq_true rfl, Nat.le_of_ble_eq_true rfl⟩ ⟨Nat.zero_le _, Nat.zero_le _⟩ hl.1 (Nat.le_of_ble_eq_true rfl) rfl dX10_join_2 (fun H locs Z => ?_)
  refine lv_if_eq (tgt := 16) hx hb dX10_join_5 (by decide) (fun c1 => ?_) (fun c1 => ?_)
  · have h := dw_ifT c1 h
    refine lv_iconst (v := (-1 : Int32)) hx hb dX10_join_16 (by decide) ?_
    obtain ⟨rfl, rfl⟩ := dw_s2 h
    exact dw_iret C0 Z hr hlk dX10_join_17
  · have h := dw_ifF c1 h
    refine lv_aload_n hx hb dX10_join_8 rfl (lv_at hl 0 rfl) ?_
    refine lv_iload_n hx hb dX10_join_9 rfl (lv_at hl 2 rfl) ?_
    refine dw_cVi C0 Z dw_hA (dw_lt dw_kc142 (by decide)) (dw_cz10 dw_kc142) rfl (As := [.int a2]) (rest := []) (kX10_isPipe l Γ hj μ a2 rfl) (dw_gV tw_lX10_62 tw_vX10_isPipe tw_eX10_isPipe tw_iX10 tw_kX10_isPipe) dw_hX10_isPipe ⟨Nat.le_of_ble_eq_true rfl, Nat.le_of_ble_eq_true rfl⟩ ⟨Nat.zero_le _, Nat.zero_le _⟩ hl.1 (Nat.le_of_ble_eq_true rfl) rfl dX10_join_10 (fun H locs Z => ?_)
    refine lv_if_ne (tgt := 18) hx hb dX10_join_13 (by decide) (fun c2 => ?_) (fun c2 => ?_)
    · have h := dw_ifF c2 h
      refine lv_aload_n hx hb dX10_join_18 rfl (lv_at hl 0 rfl) ?_
      refine lv_iload_n hx hb dX10_join_19 rfl (lv_at hl 1 rfl) ?_
      refine lv_bipush (v := (11 : Int32)) hx hb dX10_join_20 (by decide) ?_
      obtain ⟨r4, hc3, h⟩ := dw_bdS h
      refine dw_cVi C0 Z dw_hA (dw_lt dw_kc142 (by decide)) (dw_cz10 dw_kc142) rfl (As := [.int a1, .int (11 : Int32)]) (rest := []) (kX10_pipeOf l Γ hj μ a1 (11 : Int32) hc3) (dw_gV tw_lX10_55 tw_vX10_pipeOf tw_eX10_pipeOf tw_iX10 tw_kX10_pipeOf) dw_hX10_pipeOf ⟨Nat.le_of_ble_eq_true rfl, Nat.le_of_ble_eq_true rfl⟩ ⟨Nat.zero_le _, Nat.zero_le _⟩ hl.1 (Nat.le_of_ble_eq_true rfl) rfl dX10_join_22 (fun H locs Z => ?_)
      refine lv_iconst (v := (1 : Int32)) hx hb dX10_join_25 (by decide) ?_
      refine lv_isub hx hb dX10_join_26 ?_
      refine lv_topi (fun x5 ex5 => ?_)
      have h := dw_nmS ex5 h
      refine lv_istore_n (lv' := [(3, .int x5), (0, .ref (dw_ad Γ 142)), (1, .int a1), (2, .int a2)]) hx hb dX10_join_27 rfl hl (by decide) rfl (fun ls hl => ?_)
      refine lv_aload_n hx hb dX10_join_28 rfl (lv_at hl 1 rfl) ?_
      refine lv_iload_n hx hb dX10_join_29 rfl (lv_at hl 3 rfl) ?_
      refine lv_aload_n hx hb dX10_join_30 rfl (lv_at hl 1 rfl) ?_
      refine lv_iload_n hx hb dX10_join_31 rfl (lv_at hl 2 rfl) ?_
      refine lv_iload_n hx hb dX10_join_32 rfl (lv_at hl 0 rfl) ?_
      obtain ⟨r7, hc6, h⟩ := dw_bdS h
      refine dw_cVi C0 Z dw_hA (dw_lt dw_kc142 (by decide)) (dw_cz10 dw_kc142) rfl (As := [.int a1, .int x5]) (rest := [.int a2, .ref (dw_ad Γ 142)]) (kX10_stepPlace l Γ hj μ a1 x5 hc6) (dw_gV tw_lX10_59 tw_vX10_stepPlace tw_eX10_stepPlace tw_iX10 tw_kX10_stepPlace) dw_hX10_stepPlace ⟨Nat.le_of_ble_eq_true rfl, Nat.le_of_ble_eq_true rfl⟩ ⟨Nat.zero_le _, Nat.zero_le _⟩ hl.1 (Nat.le_of_ble_eq_true rfl) rfl dX10_join_33 (fun H locs Z => ?_)
      obtain ⟨r9, hc8, h⟩ := dw_bdS h
      refine dw_cVi C0 Z dw_hA (dw_lt dw_kc142 (by decide)) (dw_cz10 dw_kc142) rfl (As := [.int a2, .int r7]) (rest := []) (kX10_stepOf l Γ hj μ a2 r7 hc8) (dw_gV tw_lX10_65 tw_vX10_stepOf tw_eX10_stepOf tw_iX10 tw_kX10_stepOf) dw_hX10_stepOf ⟨Nat.le_of_ble_eq_true rfl, Nat.le_of_ble_eq_true rfl⟩ ⟨Nat.zero_le _, Nat.zero_le _⟩ hl.1 (Nat.le_of_ble_eq_true rfl) rfl dX10_join_36 (fun H locs Z => ?_)
      refine lv_istore (lv' := [(4, .int r9), (3, .int x5), (0, .ref (dw_ad Γ 142)), (1, .int a1), (2, .int a2)]) hx hb dX10_join_39 hl (by decide) rfl (fun ls hl => ?_)
      refine lv_aload_n hx hb dX10_join_41 rfl (lv_at hl 2 rfl) ?_
      refine lv_iload_n hx hb dX10_join_42 rfl (lv_at hl 3 rfl) ?_
      refine lv_iconst (v := (0 : Int32)) hx hb dX10_join_43 (by decide) ?_
      obtain ⟨r11, hc10, h⟩ := dw_bdS h
      refine dw_cVi C0 Z dw_hA (dw_lt dw_kc142 (by decide)) (dw_cz10 dw_kc142) rfl (As := [.int a1, .int (0 : Int32)]) (rest := []) (kX10_pipeOf l Γ hj μ a1 (0 : Int32) hc10) (dw_gV tw_lX10_55 tw_vX10_pipeOf tw_eX10_pipeOf tw_iX10 tw_kX10_pipeOf) dw_hX10_pipeOf ⟨Nat.le_of_ble_eq_true rfl, Nat.le_of_ble_eq_true rfl⟩ ⟨Nat.zero_le _, Nat.zero_le _⟩ hl.1 (Nat.le_of_ble_eq_true rfl) rfl dX10_join_44 (fun H locs Z => ?_)
      refine lv_iconst (v := (3 : Int32)) hx hb dX10_join_47 (by decide) ?_
      refine lv_icmp_eq (tgt := 67) hx hb dX10_join_48 (by decide) (fun c12 => ?_) (fun c12 => ?_)
      · have h := dw_ifT c12 h
        refine lv_bipush (v := (-3 : Int32)) hx hb dX10_join_67 (by decide) ?_
        obtain ⟨rfl, rfl⟩ := dw_s2 h
        exact dw_iret C0 Z hr hlk dX10_join_69
      · have h := dw_ifF c12 h
        refine lv_aload_n hx hb dX10_join_51 rfl (lv_at hl 2 rfl) ?_
        refine lv_iload_n hx hb dX10_join_52 rfl (lv_at hl 4 rfl) ?_
        refine lv_iconst (v := (0 : Int32)) hx hb dX10_join_53 (by decide) ?_
        obtain ⟨r14, hc13, h⟩ := dw_bdS h
        refine dw_cVi C0 Z dw_hA (dw_lt dw_kc142 (by decide)) (dw_cz10 dw_kc142) rfl (As := [.int a2, .int (0 : Int32)]) (rest := []) (kX10_pipeOf l Γ hj μ a2 (0 : Int32) hc13) (dw_gV tw_lX10_55 tw_vX10_pipeOf tw_eX10_pipeOf tw_iX10 tw_kX10_pipeOf) dw_hX10_pipeOf ⟨Nat.le_of_ble_eq_true rfl, Nat.le_of_ble_eq_true rfl⟩ ⟨Nat.zero_le _, Nat.zero_le _⟩ hl.1 (Nat.le_of_ble_eq_true rfl) rfl dX10_join_54 (fun H locs Z => ?_)
        refine lv_iconst (v := (2 : Int32)) hx hb dX10_join_57 (by decide) ?_
        refine lv_irem hx hb dX10_join_58 (by decide) ?_
        refine W.eq (g2 := F0 m 59 ls [.int (dw_re r14 (2 : Int32))]) rfl ?_
        refine lv_if_eq (tgt := 67) hx hb dX10_join_59 (by decide) (fun c15 => ?_) (fun c15 => ?_)
        · have h := dw_ifT c15 h
          refine lv_bipush (v := (-3 : Int32)) hx hb dX10_join_67 (by decide) ?_
          obtain ⟨rfl, rfl⟩ := dw_s2 h
          exact dw_iret C0 Z hr hlk dX10_join_69
        · have h := dw_ifF c15 h
          refine lv_iload hx hb dX10_join_62 (lv_at hl 0 rfl) ?_
          refine lv_if_ge (tgt := 70) hx hb dX10_join_64 (by decide) (fun c16 => ?_) (fun c16 => ?_)
          · have h := dw_ifT c16 h
            refine lv_aload_n hx hb dX10_join_70 rfl (lv_at hl 2 rfl) ?_
            refine lv_iload_n hx hb dX10_join_71 rfl (lv_at hl 3 rfl) ?_
            refine lv_iload_n hx hb dX10_join_72 rfl (lv_at hl 1 rfl) ?_
            obtain ⟨r18, hc17, h⟩ := dw_bdS h
            refine dw_cVi C0 Z dw_hA (dw_lt dw_kc142 (by decide)) (dw_cz10 dw_kc142) rfl (As := [.int a1, .int x5]) (rest := []) (kX10_levelAt l Γ hj μ a1 x5 hc17) (dw_gV tw_lX10_68 tw_vX10_levelAt tw_eX10_levelAt tw_iX10 tw_kX10_levelAt) dw_hX10_levelAt ⟨Nat.le_of_ble_eq_true rfl, Nat.le_of_ble_eq_true rfl⟩ ⟨Nat.zero_le _, Nat.zero_le _⟩ hl.1 (Nat.le_of_ble_eq_true rfl) rfl dX10_join_73 (fun H locs Z => ?_)
            refine lv_aload_n hx hb dX10_join_76 rfl (lv_at hl 2 rfl) ?_
            refine lv_iload_n hx hb dX10_join_77 rfl (lv_at hl 4 rfl) ?_
            refine lv_iload hx hb dX10_join_78 (lv_at hl 0 rfl) ?_
            obtain ⟨r20, hc19, h⟩ := dw_bdS h
            refine dw_cVi C0 Z dw_hA (dw_lt dw_kc142 (by decide)) (dw_cz10 dw_kc142) rfl (As := [.int a2, .int r9]) (rest := [.int r18]) (kX10_levelAt l Γ hj μ a2 r9 hc19) (dw_gV tw_lX10_68 tw_vX10_levelAt tw_eX10_levelAt tw_iX10 tw_kX10_levelAt) dw_hX10_levelAt ⟨Nat.le_of_ble_eq_true rfl, Nat.le_of_ble_eq_true rfl⟩ ⟨Nat.zero_le _, Nat.zero_le _⟩ hl.1 (Nat.le_of_ble_eq_true rfl) rfl dX10_join_80 (fun H locs Z => ?_)
            refine lv_icmp_ge (tgt := 89) hx hb dX10_join_83 (by decide) (fun c21 => ?_) (fun c21 => ?_)
            · have h := dw_ifT c21 h
              refine lv_iload_n hx hb dX10_join_89 rfl (lv_at hl 4 rfl) ?_
              refine lv_istore (lv' := [(5, .int a2), (4, .int r9), (3, .int x5), (0, .ref (dw_ad Γ 142)), (1, .int a1), (2, .int a2)]) hx hb dX10_join_90 hl (by decide) rfl (fun ls hl => ?_)
              obtain ⟨kc92, ekc92, h⟩ := dw_bdK h
              have E92 : ∀ (H : Heap) (locs : List Loc) (ls : Array Slot), dw_Z Γ (dw_A Γ) s.heap μ H locs → lv_has ls 6 [(0, .ref (dw_ad Γ 142)), (1, .int a1), (2, .int a2)] → kc92 (.inl ()) = some (r, ν) → W p l e (dw_rm 4 91) s m ([.ref (dw_ad Γ 142), .int a1, .int a2] : List Value).toArray below meth c H locs 0 0 (MQ below (dw_Qi Γ r ν) ([.ref (dw_ad Γ 142), .int a1, .int a2] : List Value).toArray s 0 0 (dw_A Γ)) (F0 m 126 ls []) := by
                intro  H locs ls Z hl h
                rw [ekc92] at h
                dsimp only [Sum.elim] at h
                refine lv_aload_n hx hb dX10_join_126 rfl (lv_at hl 0 rfl) ?_
                refine lv_iload_n hx hb dX10_join_127 rfl (lv_at hl 1 rfl) ?_
                refine lv_bipush (v := (7 : Int32)) hx hb dX10_join_128 (by decide) ?_
                refine lv_iload_n hx hb dX10_join_130 rfl (lv_at hl 2 rfl) ?_
                obtain ⟨μ29, hc28, h⟩ := dw_bdS h
                refine dw_cVv C0 Z dw_hA (dw_lt dw_kc142 (by decide)) (dw_cz10 dw_kc142) rfl (As := [.int a1, .int (7 : Int32), .int a2]) (rest := []) (kX10_setPipe l Γ hj μ a1 (7 : Int32) a2 hc28) (dw_gV tw_lX10_51 tw_vX10_setPipe tw_eX10_setPipe tw_iX10 tw_kX10_setPipe) dw_hX10_setPipe ⟨Nat.le_of_ble_eq_true rfl, Nat.le_of_ble_eq_true rfl⟩ ⟨Nat.zero_le _, Nat.zero_le _⟩ hl.1 (Nat.le_of_ble_eq_true rfl) rfl dX10_join_131 (fun H locs Z => ?_)
                refine lv_aload_n hx hb dX10_join_134 rfl (lv_at hl 0 rfl) ?_
                refine lv_iload_n hx hb dX10_join_135 rfl (lv_at hl 1 rfl) ?_
                obtain ⟨r31, hc30, h⟩ := dw_bdS h
                refine dw_cVi C0 Z dw_hA (dw_lt dw_kc142 (by decide)) (dw_cz10 dw_kc142) rfl (As := [.int a1]) (rest := []) (kX10_rank l Γ hj μ29 a1 hc30) (dw_gV tw_lX10_71 tw_vX10_rank tw_eX10_rank tw_iX10 tw_kX10_rank) dw_hX10_rank ⟨Nat.le_of_ble_eq_true rfl, Nat.le_of_ble_eq_true rfl⟩ ⟨Nat.zero_le _, Nat.zero_le _⟩ hl.1 (Nat.le_of_ble_eq_true rfl) rfl dX10_join_136 (fun H locs Z => ?_)
                obtain ⟨rfl, rfl⟩ := dw_s2 h
                exact dw_iret C0 Z hr hlk dX10_join_139
              have L92 : ∀ (n92 : Nat) (x22 : Int32) (H : Heap) (locs : List Loc) (ls : Array Slot), dw_Z Γ (dw_A Γ) s.heap μ H locs → lv_has ls 6 [(0, .ref (dw_ad Γ 142)), (1, .int a1), (2, .int a2), (5, .int x22)] → dw_bd (dw_wh (fun v => sX10_join_92 μ a1 v) n92 x22) kc92 = some (r, ν) → W p l e (dw_rm 4 91) s m ([.ref (dw_ad Γ 142), .int a1, .int a2] : List Value).toArray below meth c H locs 0 0 (MQ below (dw_Qi Γ r ν) ([.ref (dw_ad Γ 142), .int a1, .int a2] : List Value).toArray s 0 0 (dw_A Γ)) (F0 m 92 ls []) := by
                clear h
                intro n92
                induction n92 with
                | zero =>
                  intro x22 H locs ls Z hl h
                  exact (dw_wh0 h).elim
                | succ n92 ih92 =>
                  intro x22 H locs ls Z hl h
                  obtain ⟨q92, hs, hq92⟩ := dw_whB h
                  have h : sX10_join_92 μ a1 x22 = some q92 := hs
                  unfold sX10_join_92 at h
                  refine lv_iload hx hb dX10_join_92 (lv_at hl 3 rfl) ?_
                  refine lv_if_lt (tgt := 126) hx hb dX10_join_94 (by decide) (fun c23 => ?_) (fun c23 => ?_)
                  · have h := dw_ifT c23 h
                    obtain rfl := dw_s1 h
                    exact E92  H locs ls Z (lv_sub hl [0, 1, 2] rfl) hq92
                  · have h := dw_ifF c23 h
                    refine lv_iload hx hb dX10_join_97 (lv_at hl 3 rfl) ?_
                    refine lv_bipush (v := (100 : Int32)) hx hb dX10_join_99 (by decide) ?_
                    refine lv_icmp_ge (tgt := 126) hx hb dX10_join_101 (by decide) (fun c24 => ?_) (fun c24 => ?_)
                    · have h := dw_ifT c24 h
                      obtain rfl := dw_s1 h
                      exact E92  H locs ls Z (lv_sub hl [0, 1, 2] rfl) hq92
                    · have h := dw_ifF c24 h
                      refine lv_iload hx hb dX10_join_104 (lv_at hl 3 rfl) ?_
                      refine lv_iload_n hx hb dX10_join_106 rfl (lv_at hl 1 rfl) ?_
                      refine lv_icmp_ne (tgt := 113) hx hb dX10_join_107 (by decide) (fun c25 => ?_) (fun c25 => ?_)
                      · have h := dw_ifF c25 h
                        refine lv_aload_n hx hb dX10_join_113 rfl (lv_at hl 0 rfl) ?_
                        refine lv_iload hx hb dX10_join_114 (lv_at hl 3 rfl) ?_
                        refine lv_bipush (v := (7 : Int32)) hx hb dX10_join_116 (by decide) ?_
                        obtain ⟨r27, hc26, h⟩ := dw_bdS h
                        refine dw_cVi C0 Z dw_hA (dw_lt dw_kc142 (by decide)) (dw_cz10 dw_kc142) rfl (As := [.int x22, .int (7 : Int32)]) (rest := []) (kX10_pipeOf l Γ hj μ x22 (7 : Int32) hc26) (dw_gV tw_lX10_55 tw_vX10_pipeOf tw_eX10_pipeOf tw_iX10 tw_kX10_pipeOf) dw_hX10_pipeOf ⟨Nat.le_of_ble_eq_true rfl, Nat.le_of_ble_eq_true rfl⟩ ⟨Nat.zero_le _, Nat.zero_le _⟩ hl.1 (Nat.le_of_ble_eq_true rfl) rfl dX10_join_118 (fun H locs Z => ?_)
                        refine lv_istore (lv' := [(5, .int r27), (0, .ref (dw_ad Γ 142)), (1, .int a1), (2, .int a2)]) hx hb dX10_join_121 hl (by decide) rfl (fun ls hl => ?_)
                        refine lv_goto (tgt := 92) hx hb dX10_join_123 (by decide) ?_
                        obtain rfl := dw_s1 h
                        exact ih92 r27 H locs ls Z (lv_sub hl [1, 2, 3, 0] rfl) hq92
                      · have h := dw_ifT c25 h
                        refine lv_bipush (v := (-5 : Int32)) hx hb dX10_join_110 (by decide) ?_
                        obtain rfl := dw_s1 h
                        have h := hq92
                        dsimp only at h
                        rw [ekc92] at h
                        dsimp only [Sum.elim] at h
                        obtain ⟨rfl, rfl⟩ := dw_s2 h
                        exact dw_iret C0 Z hr hlk dX10_join_112
              exact L92 1000 a2 H locs ls Z (lv_sub hl [3, 4, 5, 0] rfl) h
            · have h := dw_ifF c21 h
              refine lv_bipush (v := (-4 : Int32)) hx hb dX10_join_86 (by decide) ?_
              obtain ⟨rfl, rfl⟩ := dw_s2 h
              exact dw_iret C0 Z hr hlk dX10_join_88
          · have h := dw_ifF c16 h
            refine lv_bipush (v := (-3 : Int32)) hx hb dX10_join_67 (by decide) ?_
            obtain ⟨rfl, rfl⟩ := dw_s2 h
            exact dw_iret C0 Z hr hlk dX10_join_69
    · have h := dw_ifT c2 h
      refine lv_iconst (v := (-1 : Int32)) hx hb dX10_join_16 (by decide) ?_
      obtain ⟨rfl, rfl⟩ := dw_s2 h
      exact dw_iret C0 Z hr hlk dX10_join_17
