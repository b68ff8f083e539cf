def fX9_open (μ : dw_M) (a1 : Int32) (a2 : Int32) : Option (Int32 × dw_M) :=
  if (fX4_hasPipe μ a1) = 0 then (
  some ((-1 : Int32), μ))
  else (
  if (fX9_isDitch a2) = 0 then (
  some ((-1 : Int32), μ))
  else (
  dw_gd (dw_ok a1 20) (
  if (μ.1 (12 + 1 + 2 * a1.toNatClampNeg) 1) = (3 : Int32) then (
  dw_nm (dw_st μ (12 + 1 + 2 * a1.toNatClampNeg) 5 ((100 : Int32) + a2)) (fun μ5 =>
  some ((1 : Int32), μ5)))
  else (
  some ((-3 : Int32), μ)))))
set_option maxHeartbeats 4000000 in
set_option maxRecDepth 100000 in
theorem kX9_open (l : Launch) (Γ : dw_G) (hj : dw_inj Γ) (μ : dw_M) (a1 : Int32) (a2 : Int32) {r : Int32} {ν : dw_M} (h : fX9_open μ a1 a2 = some (r, ν)) : Met l yX9_open (dw_ws yX9_open cX9_open 3 (some .int)) (dw_rm 1 21) (dw_P Γ ([.ref (dw_ad Γ 0), .int a1, .int a2] : List Value) μ) (dw_Qi Γ r ν) 0 0 (dw_A Γ) := by
  refine dw_met (own := RX9) rfl rfl (Nat.le_of_ble_eq_true rfl) hj ?_
  intro p e s m below meth c C0 hr hlk Z ls hl
  have hx := C0.1
  have hb := C0.2.1
  have hl : lv_has ls 3 [(0, .ref (dw_ad Γ 0)), (1, .int a1), (2, .int a2)] := hl
  suffices key : ∀ (H : Heap) (locs : List Loc), dw_Z Γ (dw_A Γ) s.heap μ H locs → W p l e (dw_rm 1 21) s m ([.ref (dw_ad Γ 0), .int a1, .int a2] : List Value).toArray below meth c H locs 0 0 (MQ below (dw_Qi Γ r ν) ([.ref (dw_ad Γ 0), .int a1, .int a2] : List Value).toArray s 0 0 (dw_A Γ)) (F0 m 0 ls []) from key _ _ Z
  clear Z
  intro H locs Z
  unfold fX9_open at h
  refine lv_aload_n hx hb dX9_open_0 rfl (lv_at hl 0 rfl) ?_
  refine dw_g9_0 (t := 1) C0 Z dw_kc0 tw_fX9_12 rfl dX9_open_1 ?_
  refine dw_g6_2 (t := 11) C0 Z dw_kc1 tw_fX9_67 rfl dX9_open_4 ?_
  refine lv_iload_n hx hb dX9_open_7 rfl (lv_at hl 1 rfl) ?_
  refine dw_cVi C0 Z dw_hA (dw_lt dw_kc11 (by decide)) (dw_cz4 dw_kc11) rfl (As := [.int a1]) (rest := []) (kX4_hasPipe l Γ hj μ a1 rfl) (dw_gV tw_lX9_171 tw_vX4_hasPipe tw_eX4_hasPipe tw_iX4 tw_kX4_hasPipe) dw_hX4_hasPipe ⟨Nat.le_of_ble_eq_true rfl, Nat.le_of_ble_eq_true rfl⟩ ⟨Nat.zero_le _, Nat.zero_le _⟩ hl.1 (Nat.le_of_ble_eq_true rfl) rfl dX9_open_8 (fun H locs Z => ?_)
  refine lv_if_eq (tgt := 21) hx hb dX9_open_11 (by decide) (fun c1 => ?_) (fun c1 => ?_)
  · have h := dw_ifT c1 h
    refine lv_iconst (v := (-1 : Int32)) hx hb dX9_open_21 (by decide) ?_
    obtain ⟨rfl, rfl⟩ := dw_s2 h
    exact dw_iret C0 Z hr hlk dX9_open_22
  · have h := dw_ifF c1 h
    refine lv_iload_n hx hb dX9_open_14 rfl (lv_at hl 2 rfl) ?_
    refine dw_cSi C0 Z dw_hA (As := [.int a2]) (rest := []) (kX9_isDitch l Γ hj μ a2 rfl) (dw_gS tw_lX9_127 tw_sX9_isDitch tw_iX9 tw_kX9_isDitch) dw_hX9_isDitch ⟨Nat.le_of_ble_eq_true rfl, Nat.le_of_ble_eq_true rfl⟩ ⟨Nat.zero_le _, Nat.zero_le _⟩ hl.1 (Nat.le_of_ble_eq_true rfl) rfl dX9_open_15 (fun H locs Z => ?_)
    refine lv_if_ne (tgt := 23) hx hb dX9_open_18 (by decide) (fun c2 => ?_) (fun c2 => ?_)
    · have h := dw_ifF c2 h
      refine lv_aload_n hx hb dX9_open_23 rfl (lv_at hl 0 rfl) ?_
      refine dw_g9_0 (t := 1) C0 Z dw_kc0 tw_fX9_12 rfl dX9_open_24 ?_
      refine dw_g6_2 (t := 11) C0 Z dw_kc1 tw_fX9_67 rfl dX9_open_27 ?_
      refine dw_g4_0 (t := 12) C0 Z dw_kc11 tw_fX9_158 rfl dX9_open_30 ?_
      refine lv_iload_n hx hb dX9_open_33 rfl (lv_at hl 1 rfl) ?_
      obtain ⟨g3, h⟩ := dw_gdS h
      refine dw_aald C0 Z dw_kc12 g3 dX9_open_34 ?_
      refine dw_g5_1 C0 Z (dw_pk dw_kc12 (dw_ok_lt g3)) tw_fX9_184 dX9_open_35 ?_
      refine lv_iconst (v := (3 : Int32)) hx hb dX9_open_38 (by decide) ?_
      refine lv_icmp_eq (tgt := 45) hx hb dX9_open_39 (by decide) (fun c4 => ?_) (fun c4 => ?_)
      · have h := dw_ifT c4 h
        refine lv_aload_n hx hb dX9_open_45 rfl (lv_at hl 0 rfl) ?_
        refine dw_g9_0 (t := 1) C0 Z dw_kc0 tw_fX9_12 rfl dX9_open_46 ?_
        refine dw_g6_2 (t := 11) C0 Z dw_kc1 tw_fX9_67 rfl dX9_open_49 ?_
        refine dw_g4_0 (t := 12) C0 Z dw_kc11 tw_fX9_158 rfl dX9_open_52 ?_
        refine lv_iload_n hx hb dX9_open_55 rfl (lv_at hl 1 rfl) ?_
        refine dw_aald C0 Z dw_kc12 g3 dX9_open_56 ?_
        refine lv_bipush (v := (100 : Int32)) hx hb dX9_open_57 (by decide) ?_
        refine lv_iload_n hx hb dX9_open_59 rfl (lv_at hl 2 rfl) ?_
        refine lv_iadd hx hb dX9_open_60 ?_
        refine dw_p5_5 C0 Z dw_hA (dw_pk dw_kc12 (dw_ok_lt g3)) tw_fX9_197 dX9_open_61 (fun μ5 eμ5 H locs Z => ?_)
        have h := dw_nmS eμ5 h
        refine lv_iconst (v := (1 : Int32)) hx hb dX9_open_64 (by decide) ?_
        obtain ⟨rfl, rfl⟩ := dw_s2 h
        exact dw_iret C0 Z hr hlk dX9_open_65
      · have h := dw_ifF c4 h
        refine lv_bipush (v := (-3 : Int32)) hx hb dX9_open_42 (by decide) ?_
        obtain ⟨rfl, rfl⟩ := dw_s2 h
        exact dw_iret C0 Z hr hlk dX9_open_44
    · have h := dw_ifT c2 h
      refine lv_iconst (v := (-1 : Int32)) hx hb dX9_open_21 (by decide) ?_
      obtain ⟨rfl, rfl⟩ := dw_s2 h
      exact dw_iret C0 Z hr hlk dX9_open_22

def fX9_part (μ : dw_M) (a1 : Int32) : Option (Int32 × dw_M) :=
  if (fX4_hasPipe μ a1) = 0 then (
  some ((-1 : Int32), μ))
  else (
  dw_gd (dw_ok a1 20) (
  if (μ.1 (12 + 1 + 2 * a1.toNatClampNeg) 5) = (-1 : Int32) then (
  some ((0 : Int32), μ))
  else (
  dw_nm (dw_st μ (12 + 1 + 2 * a1.toNatClampNeg) 5 (-1 : Int32)) (fun μ4 =>
  some ((1 : Int32), μ4)))))
set_option maxHeartbeats 4000000 in
set_option maxRecDepth 100000 in
theorem kX9_part (l : Launch) (Γ : dw_G) (hj : dw_inj Γ) (μ : dw_M) (a1 : Int32) {r : Int32} {ν : dw_M} (h : fX9_part μ a1 = some (r, ν)) : Met l yX9_part (dw_ws yX9_part cX9_part 2 (some .int)) (dw_rm 1 21) (dw_P Γ ([.ref (dw_ad Γ 0), .int a1] : List Value) μ) (dw_Qi Γ r ν) 0 0 (dw_A Γ) := by
  refine dw_met (own := RX9) rfl rfl (Nat.le_of_ble_eq_true rfl) hj ?_
  intro p e s m below meth c C0 hr hlk Z ls hl
  have hx := C0.1
  have hb := C0.2.1
  have hl : lv_has ls 2 [(0, .ref (dw_ad Γ 0)), (1, .int a1)] := hl
  suffices key : ∀ (H : Heap) (locs : List Loc), dw_Z Γ (dw_A Γ) s.heap μ H locs → W p l e (dw_rm 1 21) s m ([.ref (dw_ad Γ 0), .int a1] : List Value).toArray below meth c H locs 0 0 (MQ below (dw_Qi Γ r ν) ([.ref (dw_ad Γ 0), .int a1] : List Value).toArray s 0 0 (dw_A Γ)) (F0 m 0 ls []) from key _ _ Z
  clear Z
  intro H locs Z
  unfold fX9_part at h
  refine lv_aload_n hx hb dX9_part_0 rfl (lv_at hl 0 rfl) ?_
  refine dw_g9_0 (t := 1) C0 Z dw_kc0 tw_fX9_12 rfl dX9_part_1 ?_
  refine dw_g6_2 (t := 11) C0 Z dw_kc1 tw_fX9_67 rfl dX9_part_4 ?_
  refine lv_iload_n hx hb dX9_part_7 rfl (lv_at hl 1 rfl) ?_
  refine dw_cVi C0 Z dw_hA (dw_lt dw_kc11 (by decide)) (dw_cz4 dw_kc11) rfl (As := [.int a1]) (rest := []) (kX4_hasPipe l Γ hj μ a1 rfl) (dw_gV tw_lX9_171 tw_vX4_hasPipe tw_eX4_hasPipe tw_iX4 tw_kX4_hasPipe) dw_hX4_hasPipe ⟨Nat.le_of_ble_eq_true rfl, Nat.le_of_ble_eq_true rfl⟩ ⟨Nat.zero_le _, Nat.zero_le _⟩ hl.1 (Nat.le_of_ble_eq_true rfl) rfl dX9_part_8 (fun H locs Z => ?_)
  refine lv_if_ne (tgt := 16) hx hb dX9_part_11 (by decide) (fun c1 => ?_) (fun c1 => ?_)
  · have h := dw_ifF c1 h
    refine lv_aload_n hx hb dX9_part_16 rfl (lv_at hl 0 rfl) ?_
    refine dw_g9_0 (t := 1) C0 Z dw_kc0 tw_fX9_12 rfl dX9_part_17 ?_
    refine dw_g6_2 (t := 11) C0 Z dw_kc1 tw_fX9_67 rfl dX9_part_20 ?_
    refine dw_g4_0 (t := 12) C0 Z dw_kc11 tw_fX9_158 rfl dX9_part_23 ?_
    refine lv_iload_n hx hb dX9_part_26 rfl (lv_at hl 1 rfl) ?_
    obtain ⟨g2, h⟩ := dw_gdS h
    refine dw_aald C0 Z dw_kc12 g2 dX9_part_27 ?_
    refine dw_g5_5 C0 Z (dw_pk dw_kc12 (dw_ok_lt g2)) tw_fX9_197 dX9_part_28 ?_
    refine lv_iconst (v := (-1 : Int32)) hx hb dX9_part_31 (by decide) ?_
    refine lv_icmp_ne (tgt := 37) hx hb dX9_part_32 (by decide) (fun c3 => ?_) (fun c3 => ?_)
    · have h := dw_ifF c3 h
      refine lv_aload_n hx hb dX9_part_37 rfl (lv_at hl 0 rfl) ?_
      refine dw_g9_0 (t := 1) C0 Z dw_kc0 tw_fX9_12 rfl dX9_part_38 ?_
      refine dw_g6_2 (t := 11) C0 Z dw_kc1 tw_fX9_67 rfl dX9_part_41 ?_
      refine dw_g4_0 (t := 12) C0 Z dw_kc11 tw_fX9_158 rfl dX9_part_44 ?_
      refine lv_iload_n hx hb dX9_part_47 rfl (lv_at hl 1 rfl) ?_
      refine dw_aald C0 Z dw_kc12 g2 dX9_part_48 ?_
      refine lv_iconst (v := (-1 : Int32)) hx hb dX9_part_49 (by decide) ?_
      refine dw_p5_5 C0 Z dw_hA (dw_pk dw_kc12 (dw_ok_lt g2)) tw_fX9_197 dX9_part_50 (fun μ4 eμ4 H locs Z => ?_)
      have h := dw_nmS eμ4 h
      refine lv_iconst (v := (1 : Int32)) hx hb dX9_part_53 (by decide) ?_
      obtain ⟨rfl, rfl⟩ := dw_s2 h
      exact dw_iret C0 Z hr hlk dX9_part_54
    · have h := dw_ifT c3 h
      refine lv_iconst (v := (0 : Int32)) hx hb dX9_part_35 (by decide) ?_
      obtain ⟨rfl, rfl⟩ := dw_s2 h
      exact dw_iret C0 Z hr hlk dX9_part_36
  · have h := dw_ifT c1 h
    refine lv_iconst (v := (-1 : Int32)) hx hb dX9_part_14 (by decide) ?_
    obtain ⟨rfl, rfl⟩ := dw_s2 h
    exact dw_iret C0 Z hr hlk dX9_part_15

def fX9_block (μ : dw_M) (a1 : Int32) (a2 : Int32) : Int32 × dw_M :=
  if (fX4_hasPipe μ a1) = 0 then (
   ((-1 : Int32), μ))
  else (
  dw_n2 (fX2_put μ 60 a1 a2) (fun r3 μ2 =>
   (r3, μ2)))
set_option maxHeartbeats 4000000 in
set_option maxRecDepth 100000 in
theorem kX9_block (l : Launch) (Γ : dw_G) (hj : dw_inj Γ) (μ : dw_M) (a1 : Int32) (a2 : Int32) {r : Int32} {ν : dw_M} (h : fX9_block μ a1 a2 = (r, ν)) : Met l yX9_block (dw_ws yX9_block cX9_block 3 (some .int)) (dw_rm 2 43) (dw_P Γ ([.ref (dw_ad Γ 0), .int a1, .int a2] : List Value) μ) (dw_Qi Γ r ν) 0 0 (dw_A Γ) := by
  refine dw_met (own := RX9) rfl rfl (Nat.le_of_ble_eq_true rfl) hj ?_
  intro p e s m below meth c C0 hr hlk Z ls hl
  have hx := C0.1
  have hb := C0.2.1
  have hl : lv_has ls 3 [(0, .ref (dw_ad Γ 0)), (1, .int a1), (2, .int a2)] := hl
  suffices key : ∀ (H : Heap) (locs : List Loc), dw_Z Γ (dw_A Γ) s.heap μ H locs → W p l e (dw_rm 2 43) s m ([.ref (dw_ad Γ 0), .int a1, .int a2] : List Value).toArray below meth c H locs 0 0 (MQ below (dw_Qi Γ r ν) ([.ref (dw_ad Γ 0), .int a1, .int a2] : List Value).toArray s 0 0 (dw_A Γ)) (F0 m 0 ls []) from key _ _ Z
  clear Z
  intro H locs Z
  unfold fX9_block at h
  refine lv_aload_n hx hb dX9_block_0 rfl (lv_at hl 0 rfl) ?_
  refine dw_g9_0 (t := 1) C0 Z dw_kc0 tw_fX9_12 rfl dX9_block_1 ?_
  refine dw_g6_2 (t := 11) C0 Z dw_kc1 tw_fX9_67 rfl dX9_block_4 ?_
  refine lv_iload_n hx hb dX9_block_7 rfl (lv_at hl 1 rfl) ?_
  refine dw_cVi C0 Z dw_hA (dw_lt dw_kc11 (by decide)) (dw_cz4 dw_kc11) rfl (As := [.int a1]) (rest := []) (kX4_hasPipe l Γ hj μ a1 rfl) (dw_gV tw_lX9_171 tw_vX4_hasPipe tw_eX4_hasPipe tw_iX4 tw_kX4_hasPipe) dw_hX4_hasPipe ⟨Nat.le_of_ble_eq_true rfl, Nat.le_of_ble_eq_true rfl⟩ ⟨Nat.zero_le _, Nat.zero_le _⟩ hl.1 (Nat.le_of_ble_eq_true rfl) rfl dX9_block_8 (fun H locs Z => ?_)
  refine lv_if_eq (tgt := 32) hx hb dX9_block_11 (by decide) (fun c1 => ?_) (fun c1 => ?_)
  · have h := dw_ifT c1 h
    refine lv_iconst (v := (-1 : Int32)) hx hb dX9_block_32 (by decide) ?_
    obtain ⟨rfl, rfl⟩ := dw_t2 h
    exact dw_iret C0 Z hr hlk dX9_block_33
  · have h := dw_ifF c1 h
    refine lv_aload_n hx hb dX9_block_14 rfl (lv_at hl 0 rfl) ?_
    refine dw_g9_0 (t := 1) C0 Z dw_kc0 tw_fX9_12 rfl dX9_block_15 ?_
    refine dw_g6_3 (t := 53) C0 Z dw_kc1 tw_fX9_77 rfl dX9_block_18 ?_
    refine dw_g8_6 (t := 60) C0 Z dw_kc53 tw_fX9_203 rfl dX9_block_21 ?_
    refine lv_iload_n hx hb dX9_block_24 rfl (lv_at hl 1 rfl) ?_
    refine lv_iload_n hx hb dX9_block_25 rfl (lv_at hl 2 rfl) ?_
    obtain ⟨r3, μ2, eμ2, h⟩ := dw_n2S h
    refine dw_cVi C0 Z dw_hA (dw_lt dw_kc60 (by decide)) (dw_cz2 dw_kc60) rfl (As := [.int a1, .int a2]) (rest := []) (kX2_put l Γ hj μ 60 dw_kc60 a1 a2 eμ2) (dw_gV tw_lX9_206 tw_vX2_put tw_eX2_put tw_iX2 tw_kX2_put) dw_hX2_put ⟨Nat.le_of_ble_eq_true rfl, Nat.le_of_ble_eq_true rfl⟩ ⟨Nat.zero_le _, Nat.zero_le _⟩ hl.1 (Nat.le_of_ble_eq_true rfl) rfl dX9_block_26 (fun H locs Z => ?_)
    refine lv_goto (tgt := 33) hx hb dX9_block_29 (by decide) ?_
    obtain ⟨rfl, rfl⟩ := dw_t2 h
    exact dw_iret C0 Z hr hlk dX9_block_33

def fX9_of (μ : dw_M) (a1 : Int32) (a2 : Int32) : Option (Int32) :=
  if (fX4_hasPipe μ a1) = 0 then (
  some (-1 : Int32))
  else (
  dw_gd (dw_ok a1 20) (
  if a2 = (0 : Int32) then (
  some (μ.1 (12 + 1 + 2 * a1.toNatClampNeg) 1))
  else (
  if a2 = (1 : Int32) then (
  some (μ.1 ((12 + 1 + 2 * a1.toNatClampNeg) + 1) 2))
  else (
  if a2 = (2 : Int32) then (
  some (μ.1 (12 + 1 + 2 * a1.toNatClampNeg) 2))
  else (
  if a2 = (3 : Int32) then (
  some (μ.1 (12 + 1 + 2 * a1.toNatClampNeg) 3))
  else (
  if a2 = (4 : Int32) then (
  some (μ.1 (12 + 1 + 2 * a1.toNatClampNeg) 4))
  else (
  if a2 = (5 : Int32) then (
  dw_bd (fX4_rankOf μ a1) (fun r10 =>
  some r10))
  else (
  if a2 = (6 : Int32) then (
  some (μ.1 (12 + 1 + 2 * a1.toNatClampNeg) 5))
  else (
  if a2 = (7 : Int32) then (
  if (fX2_has μ 60 a1) = 0 then (
  some (0 : Int32))
  else (
  some (1 : Int32)))
  else (
  if a2 = (8 : Int32) then (
  some (μ.1 56 a1.toNatClampNeg))
  else (
  if a2 = (9 : Int32) then (
  some (μ.1 57 a1.toNatClampNeg))
  else (
  if a2 = (10 : Int32) then (
  dw_bd (fX4_peakOf μ a1) (fun r18 =>
  some r18))
  else (
  if a2 = (11 : Int32) then (
  some (μ.1 58 a1.toNatClampNeg))
  else (
  some (-1 : Int32)))))))))))))))
set_option maxHeartbeats 4000000 in
set_option maxRecDepth 100000 in
theorem kX9_of (l : Launch) (Γ : dw_G) (hj : dw_inj Γ) (μ : dw_M) (a1 : Int32) (a2 : Int32) {r : Int32} (h : fX9_of μ a1 a2 = some r) : Met l yX9_of (dw_ws yX9_of cX9_of 4 (some .int)) (dw_rm 2 47) (dw_P Γ ([.ref (dw_ad Γ 0), .int a1, .int a2] : List Value) μ) (dw_Qi Γ r μ) 0 0 (dw_A Γ) := by
  refine dw_met (own := RX9) rfl rfl (Nat.le_of_ble_eq_true rfl) hj ?_
  intro p e s m below meth c C0 hr hlk Z ls hl
  have hx := C0.1
  have hb := C0.2.1
  have hl : lv_has ls 4 [(0, .ref (dw_ad Γ 0)), (1, .int a1), (2, .int a2)] := hl
  suffices key : ∀ (H : Heap) (locs : List Loc), dw_Z Γ (dw_A Γ) s.heap μ H locs → W p l e (dw_rm 2 47) s m ([.ref (dw_ad Γ 0), .int a1, .int a2] : List Value).toArray below meth c H locs 0 0 (MQ below (dw_Qi Γ r μ) ([.ref (dw_ad Γ 0), .int a1, .int a2] : List Value).toArray s 0 0 (dw_A Γ)) (F0 m 0 ls []) from key _ _ Z
  clear Z
  intro H locs Z
  unfold fX9_of at h
  refine lv_aload_n hx hb dX9_of_0 rfl (lv_at hl 0 rfl) ?_
  refine dw_g9_0 (t := 1) C0 Z dw_kc0 tw_fX9_12 rfl dX9_of_1 ?_
  refine dw_g6_2 (t := 11) C0 Z dw_kc1 tw_fX9_67 rfl dX9_of_4 ?_
  refine lv_iload_n hx hb dX9_of_7 rfl (lv_at hl 1 rfl) ?_
  refine dw_cVi C0 Z dw_hA (dw_lt dw_kc11 (by decide)) (dw_cz4 dw_kc11) rfl (As := [.int a1]) (rest := []) (kX4_hasPipe l Γ hj μ a1 rfl) (dw_gV tw_lX9_171 tw_vX4_hasPipe tw_eX4_hasPipe tw_iX4 tw_kX4_hasPipe) dw_hX4_hasPipe ⟨Nat.le_of_ble_eq_true rfl, Nat.le_of_ble_eq_true rfl⟩ ⟨Nat.zero_le _, Nat.zero_le _⟩ hl.1 (Nat.le_of_ble_eq_true rfl) rfl dX9_of_8 (fun H locs Z => ?_)
  refine lv_if_ne (tgt := 16) hx hb dX9_of_11 (by decide) (fun c1 => ?_) (fun c1 => ?_)
  · have h := dw_ifF c1 h
    refine lv_aload_n hx hb dX9_of_16 rfl (lv_at hl 0 rfl) ?_
    refine dw_g9_0 (t := 1) C0 Z dw_kc0 tw_fX9_12 rfl dX9_of_17 ?_
    refine dw_g6_2 (t := 11) C0 Z dw_kc1 tw_fX9_67 rfl dX9_of_20 ?_
    refine dw_g4_0 (t := 12) C0 Z dw_kc11 tw_fX9_158 rfl dX9_of_23 ?_
    refine lv_iload_n hx hb dX9_of_26 rfl (lv_at hl 1 rfl) ?_
    obtain ⟨g2, h⟩ := dw_gdS h
    refine dw_aald C0 Z dw_kc12 g2 dX9_of_27 ?_
    refine lv_astore_n (lv' := [(3, .ref (dw_ad Γ (12 + 1 + 2 * a1.toNatClampNeg))), (0, .ref (dw_ad Γ 0)), (1, .int a1), (2, .int a2)]) hx hb dX9_of_28 rfl hl (by decide) rfl (fun ls hl => ?_)
    refine lv_iload_n hx hb dX9_of_29 rfl (lv_at hl 3 rfl) ?_
    by_cases c3 : a2 = (0 : Int32)
    · have h := dw_ifT c3 h
      refine lv_tableIn (off := 62) (tgt := 92) hx hb dX9_of_30 (by rw [c3]; decide) (by rw [c3]; decide) (by rw [c3]; rfl) (by decide) ?_
      refine lv_aload_n hx hb dX9_of_92 rfl (lv_at hl 0 rfl) ?_
      refine dw_g5_1 C0 Z (dw_pk dw_kc12 (dw_ok_lt g2)) tw_fX9_184 dX9_of_93 ?_
      obtain rfl := dw_s1 h
      exact dw_iret C0 Z hr hlk dX9_of_96
    have h := dw_ifF c3 h
    by_cases c4 : a2 = (1 : Int32)
    · have h := dw_ifT c4 h
      refine lv_tableIn (off := 67) (tgt := 97) hx hb dX9_of_30 (by rw [c4]; decide) (by rw [c4]; decide) (by rw [c4]; rfl) (by decide) ?_
      refine lv_aload_n hx hb dX9_of_97 rfl (lv_at hl 0 rfl) ?_
      refine dw_g5_0 (t := ((12 + 1 + 2 * a1.toNatClampNeg) + 1)) C0 Z (dw_pk dw_kc12 (dw_ok_lt g2)) tw_fX9_174 rfl dX9_of_98 ?_
      refine dw_g3_2 C0 Z (dw_r5_0 (dw_pk dw_kc12 (dw_ok_lt g2))) tw_fX9_151 dX9_of_101 ?_
      obtain rfl := dw_s1 h
      exact dw_iret C0 Z hr hlk dX9_of_104
    have h := dw_ifF c4 h
    by_cases c5 : a2 = (2 : Int32)
    · have h := dw_ifT c5 h
      refine lv_tableIn (off := 75) (tgt := 105) hx hb dX9_of_30 (by rw [c5]; decide) (by rw [c5]; decide) (by rw [c5]; rfl) (by decide) ?_
      refine lv_aload_n hx hb dX9_of_105 rfl (lv_at hl 0 rfl) ?_
      refine dw_g5_2 C0 Z (dw_pk dw_kc12 (dw_ok_lt g2)) tw_fX9_210 dX9_of_106 ?_
      obtain rfl := dw_s1 h
      exact dw_iret C0 Z hr hlk dX9_of_109
    have h := dw_ifF c5 h
    by_cases c6 : a2 = (3 : Int32)
    · have h := dw_ifT c6 h
      refine lv_tableIn (off := 80) (tgt := 110) hx hb dX9_of_30 (by rw [c6]; decide) (by rw [c6]; decide) (by rw [c6]; rfl) (by decide) ?_
      refine lv_aload_n hx hb dX9_of_110 rfl (lv_at hl 0 rfl) ?_
      refine dw_g5_3 C0 Z (dw_pk dw_kc12 (dw_ok_lt g2)) tw_fX9_213 dX9_of_111 ?_
      obtain rfl := dw_s1 h
      exact dw_iret C0 Z hr hlk dX9_of_114
    have h := dw_ifF c6 h
    by_cases c7 : a2 = (4 : Int32)
    · have h := dw_ifT c7 h
      refine lv_tableIn (off := 85) (tgt := 115) hx hb dX9_of_30 (by rw [c7]; decide) (by rw [c7]; decide) (by rw [c7]; rfl) (by decide) ?_
      refine lv_aload_n hx hb dX9_of_115 rfl (lv_at hl 0 rfl) ?_
      refine dw_g5_4 C0 Z (dw_pk dw_kc12 (dw_ok_lt g2)) tw_fX9_216 dX9_of_116 ?_
      obtain rfl := dw_s1 h
      exact dw_iret C0 Z hr hlk dX9_of_119
    have h := dw_ifF c7 h
    by_cases c8 : a2 = (5 : Int32)
    · have h := dw_ifT c8 h
      refine lv_tableIn (off := 90) (tgt := 120) hx hb dX9_of_30 (by rw [c8]; decide) (by rw [c8]; decide) (by rw [c8]; rfl) (by decide) ?_
      refine lv_aload_n hx hb dX9_of_120 rfl (lv_at hl 1 rfl) ?_
      refine dw_g9_0 (t := 1) C0 Z dw_kc0 tw_fX9_12 rfl dX9_of_121 ?_
      refine dw_g6_2 (t := 11) C0 Z dw_kc1 tw_fX9_67 rfl dX9_of_124 ?_
      refine lv_iload_n hx hb dX9_of_127 rfl (lv_at hl 2 rfl) ?_
      obtain ⟨r10, hc9, h⟩ := dw_bdS h
      refine dw_cVi C0 Z dw_hA (dw_lt dw_kc11 (by decide)) (dw_cz4 dw_kc11) rfl (As := [.int a1]) (rest := []) (kX4_rankOf l Γ hj μ a1 hc9) (dw_gV tw_lX9_200 tw_vX4_rankOf tw_eX4_rankOf tw_iX4 tw_kX4_rankOf) dw_hX4_rankOf ⟨Nat.le_of_ble_eq_true rfl, Nat.le_of_ble_eq_true rfl⟩ ⟨Nat.zero_le _, Nat.zero_le _⟩ hl.1 (Nat.le_of_ble_eq_true rfl) rfl dX9_of_128 (fun H locs Z => ?_)
      obtain rfl := dw_s1 h
      exact dw_iret C0 Z hr hlk dX9_of_131
    have h := dw_ifF c8 h
    by_cases c11 : a2 = (6 : Int32)
    · have h := dw_ifT c11 h
      refine lv_tableIn (off := 102) (tgt := 132) hx hb dX9_of_30 (by rw [c11]; decide) (by rw [c11]; decide) (by rw [c11]; rfl) (by decide) ?_
      refine lv_aload_n hx hb dX9_of_132 rfl (lv_at hl 0 rfl) ?_
      refine dw_g5_5 C0 Z (dw_pk dw_kc12 (dw_ok_lt g2)) tw_fX9_197 dX9_of_133 ?_
      obtain rfl := dw_s1 h
      exact dw_iret C0 Z hr hlk dX9_of_136
    have h := dw_ifF c11 h
    by_cases c12 : a2 = (7 : Int32)
    · have h := dw_ifT c12 h
      refine lv_tableIn (off := 107) (tgt := 137) hx hb dX9_of_30 (by rw [c12]; decide) (by rw [c12]; decide) (by rw [c12]; rfl) (by decide) ?_
      refine lv_aload_n hx hb dX9_of_137 rfl (lv_at hl 1 rfl) ?_
      refine dw_g9_0 (t := 1) C0 Z dw_kc0 tw_fX9_12 rfl dX9_of_138 ?_
      refine dw_g6_3 (t := 53) C0 Z dw_kc1 tw_fX9_77 rfl dX9_of_141 ?_
      refine dw_g8_6 (t := 60) C0 Z dw_kc53 tw_fX9_203 rfl dX9_of_144 ?_
      refine lv_iload_n hx hb dX9_of_147 rfl (lv_at hl 2 rfl) ?_
      refine dw_cVi C0 Z dw_hA (dw_lt dw_kc60 (by decide)) (dw_cz2 dw_kc60) rfl (As := [.int a1]) (rest := []) (kX2_has l Γ hj μ 60 dw_kc60 a1 rfl) (dw_gV tw_lX9_219 tw_vX2_has tw_eX2_has tw_iX2 tw_kX2_has) dw_hX2_has ⟨Nat.le_of_ble_eq_true rfl, Nat.le_of_ble_eq_true rfl⟩ ⟨Nat.zero_le _, Nat.zero_le _⟩ hl.1 (Nat.le_of_ble_eq_true rfl) rfl dX9_of_148 (fun H locs Z => ?_)
      refine lv_if_eq (tgt := 158) hx hb dX9_of_151 (by decide) (fun c13 => ?_) (fun c13 => ?_)
      · have h := dw_ifT c13 h
        refine lv_iconst (v := (0 : Int32)) hx hb dX9_of_158 (by decide) ?_
        obtain rfl := dw_s1 h
        exact dw_iret C0 Z hr hlk dX9_of_159
      · have h := dw_ifF c13 h
        refine lv_iconst (v := (1 : Int32)) hx hb dX9_of_154 (by decide) ?_
        refine lv_goto (tgt := 159) hx hb dX9_of_155 (by decide) ?_
        obtain rfl := dw_s1 h
        exact dw_iret C0 Z hr hlk dX9_of_159
    have h := dw_ifF c12 h
    by_cases c14 : a2 = (8 : Int32)
    · have h := dw_ifT c14 h
      refine lv_tableIn (off := 130) (tgt := 160) hx hb dX9_of_30 (by rw [c14]; decide) (by rw [c14]; decide) (by rw [c14]; rfl) (by decide) ?_
      refine lv_aload_n hx hb dX9_of_160 rfl (lv_at hl 1 rfl) ?_
      refine dw_g9_0 (t := 1) C0 Z dw_kc0 tw_fX9_12 rfl dX9_of_161 ?_
      refine dw_g6_3 (t := 53) C0 Z dw_kc1 tw_fX9_77 rfl dX9_of_164 ?_
      refine dw_g8_2 (t := 56) C0 Z dw_kc53 tw_fX9_222 rfl dX9_of_167 ?_
      refine lv_iload_n hx hb dX9_of_170 rfl (lv_at hl 2 rfl) ?_
      refine dw_ald C0 Z dw_kc56 dw_lc56 g2 dX9_of_171 ?_
      obtain rfl := dw_s1 h
      exact dw_iret C0 Z hr hlk dX9_of_172
    have h := dw_ifF c14 h
    by_cases c15 : a2 = (9 : Int32)
    · have h := dw_ifT c15 h
      refine lv_tableIn (off := 143) (tgt := 173) hx hb dX9_of_30 (by rw [c15]; decide) (by rw [c15]; decide) (by rw [c15]; rfl) (by decide) ?_
      refine lv_aload_n hx hb dX9_of_173 rfl (lv_at hl 1 rfl) ?_
      refine dw_g9_0 (t := 1) C0 Z dw_kc0 tw_fX9_12 rfl dX9_of_174 ?_
      refine dw_g6_3 (t := 53) C0 Z dw_kc1 tw_fX9_77 rfl dX9_of_177 ?_
      refine dw_g8_3 (t := 57) C0 Z dw_kc53 tw_fX9_168 rfl dX9_of_180 ?_
      refine lv_iload_n hx hb dX9_of_183 rfl (lv_at hl 2 rfl) ?_
      refine dw_ald C0 Z dw_kc57 dw_lc57 g2 dX9_of_184 ?_
      obtain rfl := dw_s1 h
      exact dw_iret C0 Z hr hlk dX9_of_185
    have h := dw_ifF c15 h
    by_cases c16 : a2 = (10 : Int32)
    · have h := dw_ifT c16 h
      refine lv_tableIn (off := 156) (tgt := 186) hx hb dX9_of_30 (by rw [c16]; decide) (by rw [c16]; decide) (by rw [c16]; rfl) (by decide) ?_
      refine lv_aload_n hx hb dX9_of_186 rfl (lv_at hl 1 rfl) ?_
      refine dw_g9_0 (t := 1) C0 Z dw_kc0 tw_fX9_12 rfl dX9_of_187 ?_
      refine dw_g6_2 (t := 11) C0 Z dw_kc1 tw_fX9_67 rfl dX9_of_190 ?_
      refine lv_iload_n hx hb dX9_of_193 rfl (lv_at hl 2 rfl) ?_
      obtain ⟨r18, hc17, h⟩ := dw_bdS h
      refine dw_cVi C0 Z dw_hA (dw_lt dw_kc11 (by decide)) (dw_cz4 dw_kc11) rfl (As := [.int a1]) (rest := []) (kX4_peakOf l Γ hj μ a1 hc17) (dw_gV tw_lX9_225 tw_vX4_peakOf tw_eX4_peakOf tw_iX4 tw_kX4_peakOf) dw_hX4_peakOf ⟨Nat.le_of_ble_eq_true rfl, Nat.le_of_ble_eq_true rfl⟩ ⟨Nat.zero_le _, Nat.zero_le _⟩ hl.1 (Nat.le_of_ble_eq_true rfl) rfl dX9_of_194 (fun H locs Z => ?_)
      obtain rfl := dw_s1 h
      exact dw_iret C0 Z hr hlk dX9_of_197
    have h := dw_ifF c16 h
    by_cases c19 : a2 = (11 : Int32)
    · have h := dw_ifT c19 h
      refine lv_tableIn (off := 168) (tgt := 198) hx hb dX9_of_30 (by rw [c19]; decide) (by rw [c19]; decide) (by rw [c19]; rfl) (by decide) ?_
      refine lv_aload_n hx hb dX9_of_198 rfl (lv_at hl 1 rfl) ?_
      refine dw_g9_0 (t := 1) C0 Z dw_kc0 tw_fX9_12 rfl dX9_of_199 ?_
      refine dw_g6_3 (t := 53) C0 Z dw_kc1 tw_fX9_77 rfl dX9_of_202 ?_
      refine dw_g8_4 (t := 58) C0 Z dw_kc53 tw_fX9_228 rfl dX9_of_205 ?_
      refine lv_iload_n hx hb dX9_of_208 rfl (lv_at hl 2 rfl) ?_
      refine dw_ald C0 Z dw_kc58 dw_lc58 g2 dX9_of_209 ?_
      obtain rfl := dw_s1 h
      exact dw_iret C0 Z hr hlk dX9_of_210
    have h := dw_ifF c19 h
    have tc3 := dw_ti c3 (k := 0) (by decide)
    have tc4 := dw_ti c4 (k := 1) (by decide)
    have tc5 := dw_ti c5 (k := 2) (by decide)
    have tc6 := dw_ti c6 (k := 3) (by decide)
    have tc7 := dw_ti c7 (k := 4) (by decide)
    have tc8 := dw_ti c8 (k := 5) (by decide)
    have tc11 := dw_ti c11 (k := 6) (by decide)
    have tc12 := dw_ti c12 (k := 7) (by decide)
    have tc14 := dw_ti c14 (k := 8) (by decide)
    have tc15 := dw_ti c15 (k := 9) (by decide)
    have tc16 := dw_ti c16 (k := 10) (by decide)
    have tc19 := dw_ti c19 (k := 11) (by decide)
    refine lv_tableOut (tgt := 211) hx hb dX9_of_30 (by omega) (by decide) ?_
    refine lv_iconst (v := (-1 : Int32)) hx hb dX9_of_211 (by decide) ?_
    obtain rfl := dw_s1 h
    exact dw_iret C0 Z hr hlk dX9_of_212
  · have h := dw_ifT c1 h
    refine lv_iconst (v := (-1 : Int32)) hx hb dX9_of_14 (by decide) ?_
    obtain rfl := dw_s1 h
    exact dw_iret C0 Z hr hlk dX9_of_15

def fX9_step (μ : dw_M) (a1 : Int32) (a2 : Int32) (a3 : Int32) : Option (Int32) :=
  if (fX4_hasPipe μ a1) = 0 then (
  some (-10000 : Int32))
  else (
  dw_gd (dw_ok a1 20) (
  if (fX9_isWithin a2 (0 : Int32) ((μ.1 ((12 + 1 + 2 * a1.toNatClampNeg) + 1) 2) - (1 : Int32))) = 0 then (
  some (-10000 : Int32))
  else (
  if a3 = (0 : Int32) then (
  some (fX3_placeAt μ ((12 + 1 + 2 * a1.toNatClampNeg) + 1) a2))
  else (
  if a3 = (1 : Int32) then (
  some (fX3_levelAt μ ((12 + 1 + 2 * a1.toNatClampNeg) + 1) a2))
  else (
  if a3 = (2 : Int32) then (
  dw_bd (fX1_coverAt μ ((12 + 1 + 2 * a1.toNatClampNeg) + 1) a2) (fun r8 =>
  some r8))
  else (
  some (-10000 : Int32)))))))
set_option maxHeartbeats 4000000 in
set_option maxRecDepth 100000 in
theorem kX9_step (l : Launch) (Γ : dw_G) (hj : dw_inj Γ) (μ : dw_M) (a1 : Int32) (a2 : Int32) (a3 : Int32) {r : Int32} (h : fX9_step μ a1 a2 a3 = some r) : Met l yX9_step (dw_ws yX9_step cX9_step 5 (some .int)) (dw_rm 2 43) (dw_P Γ ([.ref (dw_ad Γ 0), .int a1, .int a2, .int a3] : List Value) μ) (dw_Qi Γ r μ) 0 0 (dw_A Γ) := by
  refine dw_met (own := RX9) rfl rfl (Nat.le_of_ble_eq_true rfl) hj ?_
  intro p e s m below meth c C0 hr hlk Z ls hl
  have hx := C0.1
  have hb := C0.2.1
  have hl : lv_has ls 5 [(0, .ref (dw_ad Γ 0)), (1, .int a1), (2, .int a2), (3, .int a3)] := hl
  suffices key : ∀ (H : Heap) (locs : List Loc), dw_Z Γ (dw_A Γ) s.heap μ H locs → W p l e (dw_rm 2 43) s m ([.ref (dw_ad Γ 0), .int a1, .int a2, .int a3] : List Value).toArray below meth c H locs 0 0 (MQ below (dw_Qi Γ r μ) ([.ref (dw_ad Γ 0), .int a1, .int a2, .int a3] : List Value).toArray s 0 0 (dw_A Γ)) (F0 m 0 ls []) from key _ _ Z
  clear Z
  intro H locs Z
  unfold fX9_step at h
  refine lv_aload_n hx hb dX9_step_0 rfl (lv_at hl 0 rfl) ?_
  refine dw_g9_0 (t := 1) C0 Z dw_kc0 tw_fX9_12 rfl dX9_step_1 ?_
  refine dw_g6_2 (t := 11) C0 Z dw_kc1 tw_fX9_67 rfl dX9_step_4 ?_
  refine lv_iload_n hx hb dX9_step_7 rfl (lv_at hl 1 rfl) ?_
  refine dw_cVi C0 Z dw_hA (dw_lt dw_kc11 (by decide)) (dw_cz4 dw_kc11) rfl (As := [.int a1]) (rest := []) (kX4_hasPipe l Γ hj μ a1 rfl) (dw_gV tw_lX9_171 tw_vX4_hasPipe tw_eX4_hasPipe tw_iX4 tw_kX4_hasPipe) dw_hX4_hasPipe ⟨Nat.le_of_ble_eq_true rfl, Nat.le_of_ble_eq_true rfl⟩ ⟨Nat.zero_le _, Nat.zero_le _⟩ hl.1 (Nat.le_of_ble_eq_true rfl) rfl dX9_step_8 (fun H locs Z => ?_)
  refine lv_if_eq (tgt := 42) hx hb dX9_step_11 (by decide) (fun c1 => ?_) (fun c1 => ?_)
  · have h := dw_ifT c1 h
    refine lv_sipush (v := (-10000 : Int32)) hx hb dX9_step_42 (by decide) ?_
    obtain rfl := dw_s1 h
    exact dw_iret C0 Z hr hlk dX9_step_45
  · have h := dw_ifF c1 h
    refine lv_iload_n hx hb dX9_step_14 rfl (lv_at hl 2 rfl) ?_
    refine lv_iconst (v := (0 : Int32)) hx hb dX9_step_15 (by decide) ?_
    refine lv_aload_n hx hb dX9_step_16 rfl (lv_at hl 0 rfl) ?_
    refine dw_g9_0 (t := 1) C0 Z dw_kc0 tw_fX9_12 rfl dX9_step_17 ?_
    refine dw_g6_2 (t := 11) C0 Z dw_kc1 tw_fX9_67 rfl dX9_step_20 ?_
    refine dw_g4_0 (t := 12) C0 Z dw_kc11 tw_fX9_158 rfl dX9_step_23 ?_
    refine lv_iload_n hx hb dX9_step_26 rfl (lv_at hl 1 rfl) ?_
    obtain ⟨g2, h⟩ := dw_gdS h
    refine dw_aald C0 Z dw_kc12 g2 dX9_step_27 ?_
    refine dw_g5_0 (t := ((12 + 1 + 2 * a1.toNatClampNeg) + 1)) C0 Z (dw_pk dw_kc12 (dw_ok_lt g2)) tw_fX9_174 rfl dX9_step_28 ?_
    refine dw_g3_2 C0 Z (dw_r5_0 (dw_pk dw_kc12 (dw_ok_lt g2))) tw_fX9_151 dX9_step_31 ?_
    refine lv_iconst (v := (1 : Int32)) hx hb dX9_step_34 (by decide) ?_
    refine lv_isub hx hb dX9_step_35 ?_
    refine dw_cSi C0 Z dw_hA (As := [.int a2, .int (0 : Int32), .int ((μ.1 ((12 + 1 + 2 * a1.toNatClampNeg) + 1) 2) - (1 : Int32))]) (rest := []) (kX9_isWithin l Γ hj μ a2 (0 : Int32) ((μ.1 ((12 + 1 + 2 * a1.toNatClampNeg) + 1) 2) - (1 : Int32)) rfl) (dw_gS tw_lX9_44 tw_sX9_isWithin tw_iX9 tw_kX9_isWithin) dw_hX9_isWithin ⟨Nat.le_of_ble_eq_true rfl, Nat.le_of_ble_eq_true rfl⟩ ⟨Nat.zero_le _, Nat.zero_le _⟩ hl.1 (Nat.le_of_ble_eq_true rfl) rfl dX9_step_36 (fun H locs Z => ?_)
    refine lv_if_ne (tgt := 46) hx hb dX9_step_39 (by decide) (fun c3 => ?_) (fun c3 => ?_)
    · have h := dw_ifF c3 h
      refine lv_aload_n hx hb dX9_step_46 rfl (lv_at hl 0 rfl) ?_
      refine dw_g9_0 (t := 1) C0 Z dw_kc0 tw_fX9_12 rfl dX9_step_47 ?_
      refine dw_g6_2 (t := 11) C0 Z dw_kc1 tw_fX9_67 rfl dX9_step_50 ?_
      refine dw_g4_0 (t := 12) C0 Z dw_kc11 tw_fX9_158 rfl dX9_step_53 ?_
      refine lv_iload_n hx hb dX9_step_56 rfl (lv_at hl 1 rfl) ?_
      refine dw_aald C0 Z dw_kc12 g2 dX9_step_57 ?_
      refine dw_g5_0 (t := ((12 + 1 + 2 * a1.toNatClampNeg) + 1)) C0 Z (dw_pk dw_kc12 (dw_ok_lt g2)) tw_fX9_174 rfl dX9_step_58 ?_
      refine lv_astore (lv' := [(4, .ref (dw_ad Γ ((12 + 1 + 2 * a1.toNatClampNeg) + 1))), (0, .ref (dw_ad Γ 0)), (1, .int a1), (2, .int a2), (3, .int a3)]) hx hb dX9_step_61 hl (by decide) rfl (fun ls hl => ?_)
      refine lv_iload_n hx hb dX9_step_63 rfl (lv_at hl 4 rfl) ?_
      by_cases c4 : a3 = (0 : Int32)
      · have h := dw_ifT c4 h
        refine lv_tableIn (off := 28) (tgt := 92) hx hb dX9_step_64 (by rw [c4]; decide) (by rw [c4]; decide) (by rw [c4]; rfl) (by decide) ?_
        refine lv_aload hx hb dX9_step_92 (lv_at hl 0 rfl) ?_
        refine lv_iload_n hx hb dX9_step_94 rfl (lv_at hl 3 rfl) ?_
        refine dw_cVi C0 Z dw_hA (dw_lt (dw_r5_0 (dw_pk dw_kc12 (dw_ok_lt g2))) (by decide)) (dw_cz3 (dw_r5_0 (dw_pk dw_kc12 (dw_ok_lt g2)))) rfl (As := [.int a2]) (rest := []) (kX3_placeAt l Γ hj μ ((12 + 1 + 2 * a1.toNatClampNeg) + 1) (dw_r5_0 (dw_pk dw_kc12 (dw_ok_lt g2))) a2 rfl) (dw_gV tw_lX9_177 tw_vX3_placeAt tw_eX3_placeAt tw_iX3 tw_kX3_placeAt) dw_hX3_placeAt ⟨Nat.le_of_ble_eq_true rfl, Nat.le_of_ble_eq_true rfl⟩ ⟨Nat.zero_le _, Nat.zero_le _⟩ hl.1 (Nat.le_of_ble_eq_true rfl) rfl dX9_step_95 (fun H locs Z => ?_)
        obtain rfl := dw_s1 h
        exact dw_iret C0 Z hr hlk dX9_step_98
      have h := dw_ifF c4 h
      by_cases c5 : a3 = (1 : Int32)
      · have h := dw_ifT c5 h
        refine lv_tableIn (off := 35) (tgt := 99) hx hb dX9_step_64 (by rw [c5]; decide) (by rw [c5]; decide) (by rw [c5]; rfl) (by decide) ?_
        refine lv_aload hx hb dX9_step_99 (lv_at hl 0 rfl) ?_
        refine lv_iload_n hx hb dX9_step_101 rfl (lv_at hl 3 rfl) ?_
        refine dw_cVi C0 Z dw_hA (dw_lt (dw_r5_0 (dw_pk dw_kc12 (dw_ok_lt g2))) (by decide)) (dw_cz3 (dw_r5_0 (dw_pk dw_kc12 (dw_ok_lt g2)))) rfl (As := [.int a2]) (rest := []) (kX3_levelAt l Γ hj μ ((12 + 1 + 2 * a1.toNatClampNeg) + 1) (dw_r5_0 (dw_pk dw_kc12 (dw_ok_lt g2))) a2 rfl) (dw_gV tw_lX9_191 tw_vX3_levelAt tw_eX3_levelAt tw_iX3 tw_kX3_levelAt) dw_hX3_levelAt ⟨Nat.le_of_ble_eq_true rfl, Nat.le_of_ble_eq_true rfl⟩ ⟨Nat.zero_le _, Nat.zero_le _⟩ hl.1 (Nat.le_of_ble_eq_true rfl) rfl dX9_step_102 (fun H locs Z => ?_)
        obtain rfl := dw_s1 h
        exact dw_iret C0 Z hr hlk dX9_step_105
      have h := dw_ifF c5 h
      by_cases c6 : a3 = (2 : Int32)
      · have h := dw_ifT c6 h
        refine lv_tableIn (off := 42) (tgt := 106) hx hb dX9_step_64 (by rw [c6]; decide) (by rw [c6]; decide) (by rw [c6]; rfl) (by decide) ?_
        refine lv_aload_n hx hb dX9_step_106 rfl (lv_at hl 1 rfl) ?_
        refine dw_g9_0 (t := 1) C0 Z dw_kc0 tw_fX9_12 rfl dX9_step_107 ?_
        refine dw_g6_0 (t := 2) C0 Z dw_kc1 tw_fX9_48 rfl dX9_step_110 ?_
        refine lv_aload hx hb dX9_step_113 (lv_at hl 0 rfl) ?_
        refine lv_iload_n hx hb dX9_step_115 rfl (lv_at hl 3 rfl) ?_
        obtain ⟨r8, hc7, h⟩ := dw_bdS h
        refine dw_cVi C0 Z dw_hA (dw_lt dw_kc2 (by decide)) (dw_cz1 dw_kc2) rfl (As := [.ref (dw_ad Γ ((12 + 1 + 2 * a1.toNatClampNeg) + 1)), .int a2]) (rest := []) (kX1_coverAt l Γ hj μ ((12 + 1 + 2 * a1.toNatClampNeg) + 1) (dw_r5_0 (dw_pk dw_kc12 (dw_ok_lt g2))) a2 hc7) (dw_gV tw_lX9_231 tw_vX1_coverAt tw_eX1_coverAt tw_iX1 tw_kX1_coverAt) dw_hX1_coverAt ⟨Nat.le_of_ble_eq_true rfl, Nat.le_of_ble_eq_true rfl⟩ ⟨Nat.zero_le _, Nat.zero_le _⟩ hl.1 (Nat.le_of_ble_eq_true rfl) rfl dX9_step_116 (fun H locs Z => ?_)
        obtain rfl := dw_s1 h
        exact dw_iret C0 Z hr hlk dX9_step_119
      have h := dw_ifF c6 h
      have tc4 := dw_ti c4 (k := 0) (by decide)
      have tc5 := dw_ti c5 (k := 1) (by decide)
      have tc6 := dw_ti c6 (k := 2) (by decide)
      refine lv_tableOut (tgt := 120) hx hb dX9_step_64 (by omega) (by decide) ?_
      refine lv_sipush (v := (-10000 : Int32)) hx hb dX9_step_120 (by decide) ?_
      obtain rfl := dw_s1 h
      exact dw_iret C0 Z hr hlk dX9_step_123
    · have h := dw_ifT c3 h
      refine lv_sipush (v := (-10000 : Int32)) hx hb dX9_step_42 (by decide) ?_
      obtain rfl := dw_s1 h
      exact dw_iret C0 Z hr hlk dX9_step_45

def fX9_rain (μ : dw_M) (a1 : Int32) (a2 : Int32) : Option (Int32 × dw_M) :=
  dw_jm (if (fX9_isWithin a2 (0 : Int32) (300 : Int32)) = 0 then (
  some ((-1 : Int32), μ))
  else (
  if a1 = (-1 : Int32) then (
  dw_bd (fX9_fill μ 61 a2) (fun μ6 =>
  some ((1 : Int32), μ6)))
  else (
  dw_gd (dw_ok a1 36) (
  dw_nm (dw_st μ 61 a1.toNatClampNeg a2) (fun μ4 =>
  some ((1 : Int32), μ4)))))) (fun k19 =>
  if a1 = (-1 : Int32) then (
  k19)
  else (
  if (fX1_hasPlace μ a1) = 0 then (
  some ((-1 : Int32), μ))
  else (
  k19)))
set_option maxHeartbeats 4000000 in
set_option maxRecDepth 100000 in
theorem kX9_rain (l : Launch) (Γ : dw_G) (hj : dw_inj Γ) (μ : dw_M) (a1 : Int32) (a2 : Int32) {r : Int32} {ν : dw_M} (h : fX9_rain μ a1 a2 = some (r, ν)) : Met l yX9_rain (dw_ws yX9_rain cX9_rain 3 (some .int)) (dw_rm 1 22) (dw_P Γ ([.ref (dw_ad Γ 0), .int a1, .int a2] : List Value) μ) (dw_Qi Γ r ν) 0 0 (dw_A Γ) := by
  refine dw_met (own := RX9) rfl rfl (Nat.le_of_ble_eq_true rfl) hj ?_
  intro p e s m below meth c C0 hr hlk Z ls hl
  have hx := C0.1
  have hb := C0.2.1
  have hl : lv_has ls 3 [(0, .ref (dw_ad Γ 0)), (1, .int a1), (2, .int a2)] := hl
  suffices key : ∀ (H : Heap) (locs : List Loc), dw_Z Γ (dw_A Γ) s.heap μ H locs → W p l e (dw_rm 1 22) s m ([.ref (dw_ad Γ 0), .int a1, .int a2] : List Value).toArray below meth c H locs 0 0 (MQ below (dw_Qi Γ r ν) ([.ref (dw_ad Γ 0), .int a1, .int a2] : List Value).toArray s 0 0 (dw_A Γ)) (F0 m 0 ls []) from key _ _ Z
  clear Z
  intro H locs Z
  unfold fX9_rain at h
  refine lv_iload_n hx hb dX9_rain_0 rfl (lv_at hl 1 rfl) ?_
  refine lv_iconst (v := (-1 : Int32)) hx hb dX9_rain_1 (by decide) ?_
  obtain ⟨k19, ek19, h⟩ := dw_jnS h
  have J19 : ∀ (H : Heap) (locs : List Loc) (ls : Array Slot), dw_Z Γ (dw_A Γ) s.heap μ H locs → lv_has ls 3 [(0, .ref (dw_ad Γ 0)), (1, .int a1), (2, .int a2)] → k19 = some (r, ν) → W p l e (dw_rm 1 22) s m ([.ref (dw_ad Γ 0), .int a1, .int a2] : List Value).toArray below meth c H locs 0 0 (MQ below (dw_Qi Γ r ν) ([.ref (dw_ad Γ 0), .int a1, .int a2] : List Value).toArray s 0 0 (dw_A Γ)) (F0 m 19 ls []) := by
    clear h
    intro  H locs ls Z hl h
    rw [ek19] at h
    refine lv_iload_n hx hb dX9_rain_19 rfl (lv_at hl 2 rfl) ?_
    refine lv_iconst (v := (0 : Int32)) hx hb dX9_rain_20 (by decide) ?_
    refine lv_sipush (v := (300 : Int32)) hx hb dX9_rain_21 (by decide) ?_
    refine dw_cSi C0 Z dw_hA (As := [.int a2, .int (0 : Int32), .int (300 : Int32)]) (rest := []) (kX9_isWithin l Γ hj μ a2 (0 : Int32) (300 : Int32) rfl) (dw_gS tw_lX9_44 tw_sX9_isWithin tw_iX9 tw_kX9_isWithin) dw_hX9_isWithin ⟨Nat.le_of_ble_eq_true rfl, Nat.le_of_ble_eq_true rfl⟩ ⟨Nat.zero_le _, Nat.zero_le _⟩ hl.1 (Nat.le_of_ble_eq_true rfl) rfl dX9_rain_24 (fun H locs Z => ?_)
    refine lv_if_ne (tgt := 32) hx hb dX9_rain_27 (by decide) (fun c1 => ?_) (fun c1 => ?_)
    · have h := dw_ifF c1 h
      refine lv_iload_n hx hb dX9_rain_32 rfl (lv_at hl 1 rfl) ?_
      refine lv_iconst (v := (-1 : Int32)) hx hb dX9_rain_33 (by decide) ?_
      refine lv_icmp_ne (tgt := 51) hx hb dX9_rain_34 (by decide) (fun c2 => ?_) (fun c2 => ?_)
      · have h := dw_ifF c2 h
        refine lv_aload_n hx hb dX9_rain_51 rfl (lv_at hl 0 rfl) ?_
        refine dw_g9_0 (t := 1) C0 Z dw_kc0 tw_fX9_12 rfl dX9_rain_52 ?_
        refine dw_g6_4 (t := 61) C0 Z dw_kc1 tw_fX9_81 rfl dX9_rain_55 ?_
        refine lv_iload_n hx hb dX9_rain_58 rfl (lv_at hl 1 rfl) ?_
        refine lv_iload_n hx hb dX9_rain_59 rfl (lv_at hl 2 rfl) ?_
        obtain ⟨g3, h⟩ := dw_gdS h
        refine dw_ast C0 Z dw_hA dw_kc61 dw_lc61 g3 dX9_rain_60 (fun μ4 eμ4 H locs Z => ?_)
        have h := dw_nmS eμ4 h
        refine lv_iconst (v := (1 : Int32)) hx hb dX9_rain_61 (by decide) ?_
        obtain ⟨rfl, rfl⟩ := dw_s2 h
        exact dw_iret C0 Z hr hlk dX9_rain_62
      · have h := dw_ifT c2 h
        refine lv_aload_n hx hb dX9_rain_37 rfl (lv_at hl 0 rfl) ?_
        refine dw_g9_0 (t := 1) C0 Z dw_kc0 tw_fX9_12 rfl dX9_rain_38 ?_
        refine dw_g6_4 (t := 61) C0 Z dw_kc1 tw_fX9_81 rfl dX9_rain_41 ?_
        refine lv_iload_n hx hb dX9_rain_44 rfl (lv_at hl 2 rfl) ?_
        obtain ⟨μ6, hc5, h⟩ := dw_bdS h
        refine dw_cSv C0 Z dw_hA (As := [.ref (dw_ad Γ 61), .int a2]) (rest := []) (kX9_fill l Γ hj μ 61 dw_kc61 a2 hc5) (dw_gS tw_lX9_85 tw_sX9_fill tw_iX9 tw_kX9_fill) dw_hX9_fill ⟨Nat.le_of_ble_eq_true rfl, Nat.le_of_ble_eq_true rfl⟩ ⟨Nat.zero_le _, Nat.zero_le _⟩ hl.1 (Nat.le_of_ble_eq_true rfl) rfl dX9_rain_45 (fun H locs Z => ?_)
        refine lv_goto (tgt := 61) hx hb dX9_rain_48 (by decide) ?_
        refine lv_iconst (v := (1 : Int32)) hx hb dX9_rain_61 (by decide) ?_
        obtain ⟨rfl, rfl⟩ := dw_s2 h
        exact dw_iret C0 Z hr hlk dX9_rain_62
    · have h := dw_ifT c1 h
      refine lv_iconst (v := (-1 : Int32)) hx hb dX9_rain_30 (by decide) ?_
      obtain ⟨rfl, rfl⟩ := dw_s2 h
      exact dw_iret C0 Z hr hlk dX9_rain_31
  refine lv_icmp_eq (tgt := 19) hx hb dX9_rain_2 (by decide) (fun c7 => ?_) (fun c7 => ?_)
  · have h := dw_ifT c7 h
    exact J19 H locs ls Z (lv_sub hl [0, 1, 2] rfl) h
  · have h := dw_ifF c7 h
    refine lv_aload_n hx hb dX9_rain_5 rfl (lv_at hl 0 rfl) ?_
    refine dw_g9_0 (t := 1) C0 Z dw_kc0 tw_fX9_12 rfl dX9_rain_6 ?_
    refine dw_g6_0 (t := 2) C0 Z dw_kc1 tw_fX9_48 rfl dX9_rain_9 ?_
    refine lv_iload_n hx hb dX9_rain_12 rfl (lv_at hl 1 rfl) ?_
    refine dw_cVi C0 Z dw_hA (dw_lt dw_kc2 (by decide)) (dw_cz1 dw_kc2) rfl (As := [.int a1]) (rest := []) (kX1_hasPlace l Γ hj μ a1 rfl) (dw_gV tw_lX9_102 tw_vX1_hasPlace tw_eX1_hasPlace tw_iX1 tw_kX1_hasPlace) dw_hX1_hasPlace ⟨Nat.le_of_ble_eq_true rfl, Nat.le_of_ble_eq_true rfl⟩ ⟨Nat.zero_le _, Nat.zero_le _⟩ hl.1 (Nat.le_of_ble_eq_true rfl) rfl dX9_rain_13 (fun H locs Z => ?_)
    refine lv_if_eq (tgt := 30) hx hb dX9_rain_16 (by decide) (fun c8 => ?_) (fun c8 => ?_)
    · have h := dw_ifT c8 h
      refine lv_iconst (v := (-1 : Int32)) hx hb dX9_rain_30 (by decide) ?_
      obtain ⟨rfl, rfl⟩ := dw_s2 h
      exact dw_iret C0 Z hr hlk dX9_rain_31
    · have h := dw_ifF c8 h
      exact J19 H locs ls Z (lv_sub hl [0, 1, 2] rfl) h

def sX9_sum_4 (μ : dw_M) (i : Nat) (x1 : Int32) (x2 : Int32) : Option ((Int32 × Int32) ⊕ ((Int32))) :=
  if (nI (dw_ln i)) ≤ x2 then (
  some (.inr x1))
  else (
  dw_gd (dw_ok x2 (dw_ln i)) (
  dw_nm (x1 + (μ.1 i x2.toNatClampNeg)) (fun x5 =>
  dw_nm (x2 + (1 : Int32)) (fun x6 =>
  some (.inl (x5, x6))))))
def fX9_sum (μ : dw_M) (i : Nat) : Option (Int32) :=
  dw_bd (dw_wh (fun v => sX9_sum_4 μ i v.1 v.2) 1000 ((0 : Int32), (0 : Int32)))
    (fun x7 => some x7)
set_option maxHeartbeats 4000000 in
set_option maxRecDepth 100000 in
theorem kX9_sum (l : Launch) (Γ : dw_G) (hj : dw_inj Γ) (μ : dw_M) (i : Nat) (hk_i : dw_kd i = 11) {r : Int32} (h : fX9_sum μ i = some r) : Met l yX9_sum (dw_ws yX9_sum cX9_sum 3 (some .int)) (dw_rm 0 0) (dw_P Γ ([.ref (dw_ad Γ i)] : List Value) μ) (dw_Qi Γ r μ) 0 0 (dw_A Γ) := by
  refine dw_met (own := RX9) rfl rfl (Nat.le_of_ble_eq_true rfl) hj ?_
  intro p e s m below meth c C0 hr hlk Z ls hl
  have hx := C0.1
  have hb := C0.2.1
  have hl : lv_has ls 3 [(0, .ref (dw_ad Γ i))] := hl
  suffices key : ∀ (H : Heap) (locs : List Loc), dw_Z Γ (dw_A Γ) s.heap μ H locs → W p l e (dw_rm 0 0) s m ([.ref (dw_ad Γ i)] : List Value).toArray below meth c H locs 0 0 (MQ below (dw_Qi Γ r μ) ([.ref (dw_ad Γ i)] : List Value).toArray s 0 0 (dw_A Γ)) (F0 m 0 ls []) from key _ _ Z
  clear Z
  intro H locs Z
  unfold fX9_sum at h
  refine lv_iconst (v := (0 : Int32)) hx hb dX9_sum_0 (by decide) ?_
  refine lv_istore_n (lv' := [(1, .int (0 : Int32)), (0, .ref (dw_ad Γ i))]) hx hb dX9_sum_1 rfl hl (by decide) rfl (fun ls hl => ?_)
  refine lv_iconst (v := (0 : Int32)) hx hb dX9_sum_2 (by decide) ?_
  refine lv_istore_n (lv' := [(2, .int (0 : Int32)), (1, .int (0 : Int32)), (0, .ref (dw_ad Γ i))]) hx hb dX9_sum_3 rfl hl (by decide) rfl (fun ls hl => ?_)
  obtain ⟨kc4, ekc4, h⟩ := dw_bdK h
  have E4 : ∀ (x7 : Int32) (H : Heap) (locs : List Loc) (ls : Array Slot), dw_Z Γ (dw_A Γ) s.heap μ H locs → lv_has ls 3 [(1, .int x7)] → kc4 x7 = some r → W p l e (dw_rm 0 0) s m ([.ref (dw_ad Γ i)] : List Value).toArray below meth c H locs 0 0 (MQ below (dw_Qi Γ r μ) ([.ref (dw_ad Γ i)] : List Value).toArray s 0 0 (dw_A Γ)) (F0 m 22 ls []) := by
    intro x7 H locs ls Z hl h
    rw [ekc4] at h
    dsimp only at h
    refine lv_iload_n hx hb dX9_sum_22 rfl (lv_at hl 0 rfl) ?_
    obtain rfl := dw_s1 h
    exact dw_iret C0 Z hr hlk dX9_sum_23
  have L4 : ∀ (n4 : Nat) (x1 : Int32) (x2 : Int32) (H : Heap) (locs : List Loc) (ls : Array Slot), dw_Z Γ (dw_A Γ) s.heap μ H locs → lv_has ls 3 [(0, .ref (dw_ad Γ i)), (1, .int x1), (2, .int x2)] → dw_bd (dw_wh (fun v => sX9_sum_4 μ i v.1 v.2) n4 (x1, x2)) kc4 = some r → W p l e (dw_rm 0 0) s m ([.ref (dw_ad Γ i)] : List Value).toArray below meth c H locs 0 0 (MQ below (dw_Qi Γ r μ) ([.ref (dw_ad Γ i)] : List Value).toArray s 0 0 (dw_A Γ)) (F0 m 4 ls []) := by
    clear h
    intro n4
    induction n4 with
    | zero =>
      intro x1 x2 H locs ls Z hl h
      exact (dw_wh0 h).elim
    | succ n4 ih4 =>
      intro x1 x2 H locs ls Z hl h
      obtain ⟨q4, hs, hq4⟩ := dw_whB h
      have h : sX9_sum_4 μ i x1 x2 = some q4 := hs
      unfold sX9_sum_4 at h
      refine lv_iload_n hx hb dX9_sum_4 rfl (lv_at hl 2 rfl) ?_
      refine lv_aload_n hx hb dX9_sum_5 rfl (lv_at hl 0 rfl) ?_
      refine dw_alen C0 Z hk_i dX9_sum_6 ?_
      refine lv_icmp_ge (tgt := 22) hx hb dX9_sum_7 (by decide) (fun c3 => ?_) (fun c3 => ?_)
      · have h := dw_ifT c3 h
        obtain rfl := dw_s1 h
        exact E4 x1 H locs ls Z (lv_sub hl [1] rfl) hq4
      · have h := dw_ifF c3 h
        refine lv_iload_n hx hb dX9_sum_10 rfl (lv_at hl 1 rfl) ?_
        refine lv_aload_n hx hb dX9_sum_11 rfl (lv_at hl 0 rfl) ?_
        refine lv_iload_n hx hb dX9_sum_12 rfl (lv_at hl 2 rfl) ?_
        obtain ⟨g4, h⟩ := dw_gdS h
        refine dw_ald C0 Z hk_i rfl g4 dX9_sum_13 ?_
        refine lv_iadd hx hb dX9_sum_14 ?_
        refine lv_topi (fun x5 ex5 => ?_)
        have h := dw_nmS ex5 h
        refine lv_istore_n (lv' := [(1, .int x5), (0, .ref (dw_ad Γ i)), (2, .int x2)]) hx hb dX9_sum_15 rfl hl (by decide) rfl (fun ls hl => ?_)
        obtain ⟨x6, ex6⟩ := dw_eg (x2 + (1 : Int32))
        have h := dw_nmS ex6 h
        refine lv_iinc (v := x6) (lv' := [(2, .int x6), (1, .int x5), (0, .ref (dw_ad Γ i))]) hx hb dX9_sum_16 hl (k := 2) rfl (by rw [ex6]; rfl) (by decide) rfl (fun ls hl => ?_)
        refine lv_goto (tgt := 4) hx hb dX9_sum_19 (by decide) ?_
        obtain rfl := dw_s1 h
        exact ih4 x5 x6 H locs ls Z (lv_sub hl [2, 1, 0] rfl) hq4
  exact L4 1000 (0 : Int32) (0 : Int32) H locs ls Z (lv_sub hl [2, 1, 0] rfl) h

def sX9_hours_42 (a1 : Int32) (x6 : Int32) (μ7 : dw_M) : Option ((Int32 × dw_M) ⊕ ((dw_M))) :=
  if a1 ≤ x6 then (
  some (.inr μ7))
  else (
  dw_bd (fX0_passHour μ7 53) (fun μ10 =>
  dw_nm (x6 + (1 : Int32)) (fun x11 =>
  some (.inl (x11, μ10)))))
def fX9_hours (μ : dw_M) (a1 : Int32) : Option (Int32 × dw_M) :=
  if (fX9_isWithin a1 (1 : Int32) (50 : Int32)) = 0 then (
  some ((-1 : Int32), μ))
  else (
  dw_bd (fX9_sum μ 59) (fun r3 =>
  dw_bd (fX0_plan μ) (fun μ5 =>
  dw_bd (dw_wh (fun v => sX9_hours_42 a1 v.1 v.2) 1000 ((0 : Int32), μ5))
    (fun μ12 => dw_bd (fX9_sum μ12 59) (fun r14 =>
  some ((r14 - r3), μ12))))))
set_option maxHeartbeats 4000000 in
set_option maxRecDepth 100000 in
theorem kX9_hours (l : Launch) (Γ : dw_G) (hj : dw_inj Γ) (μ : dw_M) (a1 : Int32) {r : Int32} {ν : dw_M} (h : fX9_hours μ a1 = some (r, ν)) : Met l yX9_hours (dw_ws yX9_hours cX9_hours 4 (some .int)) (dw_rm 4 98) (dw_P Γ ([.ref (dw_ad Γ 0), .int a1] : List Value) μ) (dw_Qi Γ r ν) 0 0 (dw_A Γ) := by
  refine dw_met (own := RX9) rfl rfl (Nat.le_of_ble_eq_true rfl) hj ?_
  intro p e s m below meth c C0 hr hlk Z ls hl
  have hx := C0.1
  have hb := C0.2.1
  have hl : lv_has ls 4 [(0, .ref (dw_ad Γ 0)), (1, .int a1)] := hl
  suffices key : ∀ (H : Heap) (locs : List Loc), dw_Z Γ (dw_A Γ) s.heap μ H locs → W p l e (dw_rm 4 98) s m ([.ref (dw_ad Γ 0), .int a1] : List Value).toArray below meth c H locs 0 0 (MQ below (dw_Qi Γ r ν) ([.ref (dw_ad Γ 0), .int a1] : List Value).toArray s 0 0 (dw_A Γ)) (F0 m 0 ls []) from key _ _ Z
  clear Z
  intro H locs Z
  unfold fX9_hours at h
  refine lv_iload_n hx hb dX9_hours_0 rfl (lv_at hl 1 rfl) ?_
  refine lv_iconst (v := (1 : Int32)) hx hb dX9_hours_1 (by decide) ?_
  refine lv_bipush (v := (50 : Int32)) hx hb dX9_hours_2 (by decide) ?_
  refine dw_cSi C0 Z dw_hA (As := [.int a1, .int (1 : Int32), .int (50 : Int32)]) (rest := []) (kX9_isWithin l Γ hj μ a1 (1 : Int32) (50 : Int32) rfl) (dw_gS tw_lX9_44 tw_sX9_isWithin tw_iX9 tw_kX9_isWithin) dw_hX9_isWithin ⟨Nat.le_of_ble_eq_true rfl, Nat.le_of_ble_eq_true rfl⟩ ⟨Nat.zero_le _, Nat.zero_le _⟩ hl.1 (Nat.le_of_ble_eq_true rfl) rfl dX9_hours_4 (fun H locs Z => ?_)
  refine lv_if_ne (tgt := 12) hx hb dX9_hours_7 (by decide) (fun c1 => ?_) (fun c1 => ?_)
  · have h := dw_ifF c1 h
    refine lv_aload_n hx hb dX9_hours_12 rfl (lv_at hl 0 rfl) ?_
    refine dw_g9_0 (t := 1) C0 Z dw_kc0 tw_fX9_12 rfl dX9_hours_13 ?_
    refine dw_g6_3 (t := 53) C0 Z dw_kc1 tw_fX9_77 rfl dX9_hours_16 ?_
    refine dw_g8_5 (t := 59) C0 Z dw_kc53 tw_fX9_235 rfl dX9_hours_19 ?_
    obtain ⟨r3, hc2, h⟩ := dw_bdS h
    refine dw_cSi C0 Z dw_hA (As := [.ref (dw_ad Γ 59)]) (rest := []) (kX9_sum l Γ hj μ 59 dw_kc59 hc2) (dw_gS tw_lX9_238 tw_sX9_sum tw_iX9 tw_kX9_sum) dw_hX9_sum ⟨Nat.le_of_ble_eq_true rfl, Nat.le_of_ble_eq_true rfl⟩ ⟨Nat.zero_le _, Nat.zero_le _⟩ hl.1 (Nat.le_of_ble_eq_true rfl) rfl dX9_hours_22 (fun H locs Z => ?_)
    refine lv_istore_n (lv' := [(2, .int r3), (0, .ref (dw_ad Γ 0)), (1, .int a1)]) hx hb dX9_hours_25 rfl hl (by decide) rfl (fun ls hl => ?_)
    refine lv_aload_n hx hb dX9_hours_26 rfl (lv_at hl 1 rfl) ?_
    refine dw_g9_4 (t := 135) C0 Z dw_kc0 tw_fX9_29 rfl dX9_hours_27 ?_
    refine lv_aload_n hx hb dX9_hours_30 rfl (lv_at hl 1 rfl) ?_
    refine dw_g9_0 (t := 1) C0 Z dw_kc0 tw_fX9_12 rfl dX9_hours_31 ?_
    refine dw_g6_2 (t := 11) C0 Z dw_kc1 tw_fX9_67 rfl dX9_hours_34 ?_
    obtain ⟨μ5, hc4, h⟩ := dw_bdS h
    refine dw_cVv C0 Z dw_hA (dw_lt dw_kc135 (by decide)) (dw_cz0 dw_kc135) rfl (As := [.ref (dw_ad Γ 11)]) (rest := []) (kX0_plan l Γ hj μ hc4) (dw_gV tw_lX9_242 tw_vX0_plan tw_eX0_plan tw_iX0 tw_kX0_plan) dw_hX0_plan ⟨Nat.le_of_ble_eq_true rfl, Nat.le_of_ble_eq_true rfl⟩ ⟨Nat.zero_le _, Nat.zero_le _⟩ hl.1 (Nat.le_of_ble_eq_true rfl) rfl dX9_hours_37 (fun H locs Z => ?_)
    refine lv_iconst (v := (0 : Int32)) hx hb dX9_hours_40 (by decide) ?_
    refine lv_istore_n (lv' := [(3, .int (0 : Int32)), (2, .int r3), (0, .ref (dw_ad Γ 0)), (1, .int a1)]) hx hb dX9_hours_41 rfl hl (by decide) rfl (fun ls hl => ?_)
    obtain ⟨kc42, ekc42, h⟩ := dw_bdK h
    have E42 : ∀ (μ12 : dw_M) (H : Heap) (locs : List Loc) (ls : Array Slot), dw_Z Γ (dw_A Γ) s.heap μ12 H locs → lv_has ls 4 [(0, .ref (dw_ad Γ 0)), (2, .int r3)] → kc42 μ12 = some (r, ν) → W p l e (dw_rm 4 98) s m ([.ref (dw_ad Γ 0), .int a1] : List Value).toArray below meth c H locs 0 0 (MQ below (dw_Qi Γ r ν) ([.ref (dw_ad Γ 0), .int a1] : List Value).toArray s 0 0 (dw_A Γ)) (F0 m 71 ls []) := by
      intro μ12 H locs ls Z hl h
      rw [ekc42] at h
      dsimp only at h
      refine lv_aload_n hx hb dX9_hours_71 rfl (lv_at hl 0 rfl) ?_
      refine dw_g9_0 (t := 1) C0 Z dw_kc0 tw_fX9_12 rfl dX9_hours_72 ?_
      refine dw_g6_3 (t := 53) C0 Z dw_kc1 tw_fX9_77 rfl dX9_hours_75 ?_
      refine dw_g8_5 (t := 59) C0 Z dw_kc53 tw_fX9_235 rfl dX9_hours_78 ?_
      obtain ⟨r14, hc13, h⟩ := dw_bdS h
      refine dw_cSi C0 Z dw_hA (As := [.ref (dw_ad Γ 59)]) (rest := []) (kX9_sum l Γ hj μ12 59 dw_kc59 hc13) (dw_gS tw_lX9_238 tw_sX9_sum tw_iX9 tw_kX9_sum) dw_hX9_sum ⟨Nat.le_of_ble_eq_true rfl, Nat.le_of_ble_eq_true rfl⟩ ⟨Nat.zero_le _, Nat.zero_le _⟩ hl.1 (Nat.le_of_ble_eq_true rfl) rfl dX9_hours_81 (fun H locs Z => ?_)
      refine lv_iload_n hx hb dX9_hours_84 rfl (lv_at hl 1 rfl) ?_
      refine lv_isub hx hb dX9_hours_85 ?_
      obtain ⟨rfl, rfl⟩ := dw_s2 h
      exact dw_iret C0 Z hr hlk dX9_hours_86
    have L42 : ∀ (n42 : Nat) (x6 : Int32) (μ7 : dw_M) (H : Heap) (locs : List Loc) (ls : Array Slot), dw_Z Γ (dw_A Γ) s.heap μ7 H locs → lv_has ls 4 [(0, .ref (dw_ad Γ 0)), (1, .int a1), (2, .int r3), (3, .int x6)] → dw_bd (dw_wh (fun v => sX9_hours_42 a1 v.1 v.2) n42 (x6, μ7)) kc42 = some (r, ν) → W p l e (dw_rm 4 98) s m ([.ref (dw_ad Γ 0), .int a1] : List Value).toArray below meth c H locs 0 0 (MQ below (dw_Qi Γ r ν) ([.ref (dw_ad Γ 0), .int a1] : List Value).toArray s 0 0 (dw_A Γ)) (F0 m 42 ls []) := by
      clear h
      intro n42
      induction n42 with
      | zero =>
        intro x6 μ7 H locs ls Z hl h
        exact (dw_wh0 h).elim
      | succ n42 ih42 =>
        intro x6 μ7 H locs ls Z hl h
        obtain ⟨q42, hs, hq42⟩ := dw_whB h
        have h : sX9_hours_42 a1 x6 μ7 = some q42 := hs
        unfold sX9_hours_42 at h
        refine lv_iload_n hx hb dX9_hours_42 rfl (lv_at hl 3 rfl) ?_
        refine lv_iload_n hx hb dX9_hours_43 rfl (lv_at hl 1 rfl) ?_
        refine lv_icmp_ge (tgt := 71) hx hb dX9_hours_44 (by decide) (fun c8 => ?_) (fun c8 => ?_)
        · have h := dw_ifT c8 h
          obtain rfl := dw_s1 h
          exact E42  μ7 H locs ls Z (lv_sub hl [0, 2] rfl) hq42
        · have h := dw_ifF c8 h
          refine lv_aload_n hx hb dX9_hours_47 rfl (lv_at hl 0 rfl) ?_
          refine dw_g9_4 (t := 135) C0 Z dw_kc0 tw_fX9_29 rfl dX9_hours_48 ?_
          refine lv_aload_n hx hb dX9_hours_51 rfl (lv_at hl 0 rfl) ?_
          refine dw_g9_0 (t := 1) C0 Z dw_kc0 tw_fX9_12 rfl dX9_hours_52 ?_
          refine lv_aload_n hx hb dX9_hours_55 rfl (lv_at hl 0 rfl) ?_
          refine dw_g9_0 (t := 1) C0 Z dw_kc0 tw_fX9_12 rfl dX9_hours_56 ?_
          refine dw_g6_3 (t := 53) C0 Z dw_kc1 tw_fX9_77 rfl dX9_hours_59 ?_
          obtain ⟨μ10, hc9, h⟩ := dw_bdS h
          refine dw_cVv C0 Z dw_hA (dw_lt dw_kc135 (by decide)) (dw_cz0 dw_kc135) rfl (As := [.ref (dw_ad Γ 1), .ref (dw_ad Γ 53)]) (rest := []) (kX0_passHour l Γ hj μ7 53 dw_kc53 hc9) (dw_gV tw_lX9_246 tw_vX0_passHour tw_eX0_passHour tw_iX0 tw_kX0_passHour) dw_hX0_passHour ⟨Nat.le_of_ble_eq_true rfl, Nat.le_of_ble_eq_true rfl⟩ ⟨Nat.zero_le _, Nat.zero_le _⟩ hl.1 (Nat.le_of_ble_eq_true rfl) rfl dX9_hours_62 (fun H locs Z => ?_)
          obtain ⟨x11, ex11⟩ := dw_eg (x6 + (1 : Int32))
          have h := dw_nmS ex11 h
          refine lv_iinc (v := x11) (lv' := [(3, .int x11), (0, .ref (dw_ad Γ 0)), (1, .int a1), (2, .int r3)]) hx hb dX9_hours_65 hl (k := 3) rfl (by rw [ex11]; rfl) (by decide) rfl (fun ls hl => ?_)
          refine lv_goto (tgt := 42) hx hb dX9_hours_68 (by decide) ?_
          obtain rfl := dw_s1 h
          exact ih42 x11 μ10 H locs ls Z (lv_sub hl [1, 2, 3, 0] rfl) hq42
    exact L42 1000 (0 : Int32) μ5 H locs ls Z (lv_sub hl [2, 3, 1, 0] rfl) h
  · have h := dw_ifT c1 h
    refine lv_iconst (v := (-1 : Int32)) hx hb dX9_hours_10 (by decide) ?_
    obtain ⟨rfl, rfl⟩ := dw_s2 h
    exact dw_iret C0 Z hr hlk dX9_hours_11

def fX9_at (μ : dw_M) (a1 : Int32) (a2 : Int32) : Option (Int32) :=
  if (fX1_hasPlace μ a1) = 0 then (
  some (-1 : Int32))
  else (
  if a2 = (0 : Int32) then (
  dw_gd (dw_ok a1 36) (
  some (μ.1 3 a1.toNatClampNeg)))
  else (
  if a2 = (1 : Int32) then (
  dw_gd (dw_ok a1 36) (
  some (μ.1 4 a1.toNatClampNeg)))
  else (
  if a2 = (2 : Int32) then (
  dw_gd (dw_ok a1 36) (
  some (μ.1 54 a1.toNatClampNeg)))
  else (
  if a2 = (3 : Int32) then (
  dw_gd (dw_ok a1 36) (
  some (μ.1 55 a1.toNatClampNeg)))
  else (
  if a2 = (4 : Int32) then (
  dw_gd (dw_ok a1 36) (
  some (μ.1 61 a1.toNatClampNeg)))
  else (
  if a2 = (5 : Int32) then (
  dw_bd (fX6_isReached μ a1) (fun r14 =>
  if r14 = 0 then (
  some (0 : Int32))
  else (
  some (1 : Int32))))
  else (
  some (-1 : Int32))))))))
set_option maxHeartbeats 4000000 in
set_option maxRecDepth 100000 in
theorem kX9_at (l : Launch) (Γ : dw_G) (hj : dw_inj Γ) (μ : dw_M) (a1 : Int32) (a2 : Int32) {r : Int32} (h : fX9_at μ a1 a2 = some r) : Met l yX9_at (dw_ws yX9_at cX9_at 3 (some .int)) (dw_rm 4 94) (dw_P Γ ([.ref (dw_ad Γ 0), .int a1, .int a2] : List Value) μ) (dw_Qi Γ r μ) 0 0 (dw_A Γ) := by
  refine dw_met (own := RX9) rfl rfl (Nat.le_of_ble_eq_true rfl) hj ?_
  intro p e s m below meth c C0 hr hlk Z ls hl
  have hx := C0.1
  have hb := C0.2.1
  have hl : lv_has ls 3 [(0, .ref (dw_ad Γ 0)), (1, .int a1), (2, .int a2)] := hl
  suffices key : ∀ (H : Heap) (locs : List Loc), dw_Z Γ (dw_A Γ) s.heap μ H locs → W p l e (dw_rm 4 94) s m ([.ref (dw_ad Γ 0), .int a1, .int a2] : List Value).toArray below meth c H locs 0 0 (MQ below (dw_Qi Γ r μ) ([.ref (dw_ad Γ 0), .int a1, .int a2] : List Value).toArray s 0 0 (dw_A Γ)) (F0 m 0 ls []) from key _ _ Z
  clear Z
  intro H locs Z
  unfold fX9_at at h
  refine lv_aload_n hx hb dX9_at_0 rfl (lv_at hl 0 rfl) ?_
  refine dw_g9_0 (t := 1) C0 Z dw_kc0 tw_fX9_12 rfl dX9_at_1 ?_
  refine dw_g6_0 (t := 2) C0 Z dw_kc1 tw_fX9_48 rfl dX9_at_4 ?_
  refine lv_iload_n hx hb dX9_at_7 rfl (lv_at hl 1 rfl) ?_
  refine dw_cVi C0 Z dw_hA (dw_lt dw_kc2 (by decide)) (dw_cz1 dw_kc2) rfl (As := [.int a1]) (rest := []) (kX1_hasPlace l Γ hj μ a1 rfl) (dw_gV tw_lX9_102 tw_vX1_hasPlace tw_eX1_hasPlace tw_iX1 tw_kX1_hasPlace) dw_hX1_hasPlace ⟨Nat.le_of_ble_eq_true rfl, Nat.le_of_ble_eq_true rfl⟩ ⟨Nat.zero_le _, Nat.zero_le _⟩ hl.1 (Nat.le_of_ble_eq_true rfl) rfl dX9_at_8 (fun H locs Z => ?_)
  refine lv_if_ne (tgt := 16) hx hb dX9_at_11 (by decide) (fun c1 => ?_) (fun c1 => ?_)
  · have h := dw_ifF c1 h
    refine lv_iload_n hx hb dX9_at_16 rfl (lv_at hl 2 rfl) ?_
    by_cases c2 : a2 = (0 : Int32)
    · have h := dw_ifT c2 h
      refine lv_tableIn (off := 39) (tgt := 56) hx hb dX9_at_17 (by rw [c2]; decide) (by rw [c2]; decide) (by rw [c2]; rfl) (by decide) ?_
      refine lv_aload_n hx hb dX9_at_56 rfl (lv_at hl 0 rfl) ?_
      refine dw_g9_0 (t := 1) C0 Z dw_kc0 tw_fX9_12 rfl dX9_at_57 ?_
      refine dw_g6_0 (t := 2) C0 Z dw_kc1 tw_fX9_48 rfl dX9_at_60 ?_
      refine dw_g1_2 (t := 3) C0 Z dw_kc2 tw_fX9_106 rfl dX9_at_63 ?_
      refine lv_iload_n hx hb dX9_at_66 rfl (lv_at hl 1 rfl) ?_
      obtain ⟨g3, h⟩ := dw_gdS h
      refine dw_ald C0 Z dw_kc3 dw_lc3 g3 dX9_at_67 ?_
      obtain rfl := dw_s1 h
      exact dw_iret C0 Z hr hlk dX9_at_68
    have h := dw_ifF c2 h
    by_cases c4 : a2 = (1 : Int32)
    · have h := dw_ifT c4 h
      refine lv_tableIn (off := 52) (tgt := 69) hx hb dX9_at_17 (by rw [c4]; decide) (by rw [c4]; decide) (by rw [c4]; rfl) (by decide) ?_
      refine lv_aload_n hx hb dX9_at_69 rfl (lv_at hl 0 rfl) ?_
      refine dw_g9_0 (t := 1) C0 Z dw_kc0 tw_fX9_12 rfl dX9_at_70 ?_
      refine dw_g6_0 (t := 2) C0 Z dw_kc1 tw_fX9_48 rfl dX9_at_73 ?_
      refine dw_g1_3 (t := 4) C0 Z dw_kc2 tw_fX9_112 rfl dX9_at_76 ?_
      refine lv_iload_n hx hb dX9_at_79 rfl (lv_at hl 1 rfl) ?_
      obtain ⟨g5, h⟩ := dw_gdS h
      refine dw_ald C0 Z dw_kc4 dw_lc4 g5 dX9_at_80 ?_
      obtain rfl := dw_s1 h
      exact dw_iret C0 Z hr hlk dX9_at_81
    have h := dw_ifF c4 h
    by_cases c6 : a2 = (2 : Int32)
    · have h := dw_ifT c6 h
      refine lv_tableIn (off := 65) (tgt := 82) hx hb dX9_at_17 (by rw [c6]; decide) (by rw [c6]; decide) (by rw [c6]; rfl) (by decide) ?_
      refine lv_aload_n hx hb dX9_at_82 rfl (lv_at hl 0 rfl) ?_
      refine dw_g9_0 (t := 1) C0 Z dw_kc0 tw_fX9_12 rfl dX9_at_83 ?_
      refine dw_g6_3 (t := 53) C0 Z dw_kc1 tw_fX9_77 rfl dX9_at_86 ?_
      refine dw_g8_0 (t := 54) C0 Z dw_kc53 tw_fX9_250 rfl dX9_at_89 ?_
      refine lv_iload_n hx hb dX9_at_92 rfl (lv_at hl 1 rfl) ?_
      obtain ⟨g7, h⟩ := dw_gdS h
      refine dw_ald C0 Z dw_kc54 dw_lc54 g7 dX9_at_93 ?_
      obtain rfl := dw_s1 h
      exact dw_iret C0 Z hr hlk dX9_at_94
    have h := dw_ifF c6 h
    by_cases c8 : a2 = (3 : Int32)
    · have h := dw_ifT c8 h
      refine lv_tableIn (off := 78) (tgt := 95) hx hb dX9_at_17 (by rw [c8]; decide) (by rw [c8]; decide) (by rw [c8]; rfl) (by decide) ?_
      refine lv_aload_n hx hb dX9_at_95 rfl (lv_at hl 0 rfl) ?_
      refine dw_g9_0 (t := 1) C0 Z dw_kc0 tw_fX9_12 rfl dX9_at_96 ?_
      refine dw_g6_3 (t := 53) C0 Z dw_kc1 tw_fX9_77 rfl dX9_at_99 ?_
      refine dw_g8_1 (t := 55) C0 Z dw_kc53 tw_fX9_253 rfl dX9_at_102 ?_
      refine lv_iload_n hx hb dX9_at_105 rfl (lv_at hl 1 rfl) ?_
      obtain ⟨g9, h⟩ := dw_gdS h
      refine dw_ald C0 Z dw_kc55 dw_lc55 g9 dX9_at_106 ?_
      obtain rfl := dw_s1 h
      exact dw_iret C0 Z hr hlk dX9_at_107
    have h := dw_ifF c8 h
    by_cases c10 : a2 = (4 : Int32)
    · have h := dw_ifT c10 h
      refine lv_tableIn (off := 91) (tgt := 108) hx hb dX9_at_17 (by rw [c10]; decide) (by rw [c10]; decide) (by rw [c10]; rfl) (by decide) ?_
      refine lv_aload_n hx hb dX9_at_108 rfl (lv_at hl 0 rfl) ?_
      refine dw_g9_0 (t := 1) C0 Z dw_kc0 tw_fX9_12 rfl dX9_at_109 ?_
      refine dw_g6_4 (t := 61) C0 Z dw_kc1 tw_fX9_81 rfl dX9_at_112 ?_
      refine lv_iload_n hx hb dX9_at_115 rfl (lv_at hl 1 rfl) ?_
      obtain ⟨g11, h⟩ := dw_gdS h
      refine dw_ald C0 Z dw_kc61 dw_lc61 g11 dX9_at_116 ?_
      obtain rfl := dw_s1 h
      exact dw_iret C0 Z hr hlk dX9_at_117
    have h := dw_ifF c10 h
    by_cases c12 : a2 = (5 : Int32)
    · have h := dw_ifT c12 h
      refine lv_tableIn (off := 101) (tgt := 118) hx hb dX9_at_17 (by rw [c12]; decide) (by rw [c12]; decide) (by rw [c12]; rfl) (by decide) ?_
      refine lv_aload_n hx hb dX9_at_118 rfl (lv_at hl 0 rfl) ?_
      refine dw_g9_0 (t := 1) C0 Z dw_kc0 tw_fX9_12 rfl dX9_at_119 ?_
      refine lv_iload_n hx hb dX9_at_122 rfl (lv_at hl 1 rfl) ?_
      obtain ⟨r14, hc13, h⟩ := dw_bdS h
      refine dw_cVi C0 Z dw_hA (dw_lt dw_kc1 (by decide)) (dw_cz6 dw_kc1) rfl (As := [.int a1]) (rest := []) (kX6_isReached l Γ hj μ a1 hc13) (dw_gV tw_lX9_256 tw_vX6_isReached tw_eX6_isReached tw_iX6 tw_kX6_isReached) dw_hX6_isReached ⟨Nat.le_of_ble_eq_true rfl, Nat.le_of_ble_eq_true rfl⟩ ⟨Nat.zero_le _, Nat.zero_le _⟩ hl.1 (Nat.le_of_ble_eq_true rfl) rfl dX9_at_123 (fun H locs Z => ?_)
      refine lv_if_eq (tgt := 133) hx hb dX9_at_126 (by decide) (fun c15 => ?_) (fun c15 => ?_)
      · have h := dw_ifT c15 h
        refine lv_iconst (v := (0 : Int32)) hx hb dX9_at_133 (by decide) ?_
        obtain rfl := dw_s1 h
        exact dw_iret C0 Z hr hlk dX9_at_134
      · have h := dw_ifF c15 h
        refine lv_iconst (v := (1 : Int32)) hx hb dX9_at_129 (by decide) ?_
        refine lv_goto (tgt := 134) hx hb dX9_at_130 (by decide) ?_
        obtain rfl := dw_s1 h
        exact dw_iret C0 Z hr hlk dX9_at_134
    have h := dw_ifF c12 h
    have tc2 := dw_ti c2 (k := 0) (by decide)
    have tc4 := dw_ti c4 (k := 1) (by decide)
    have tc6 := dw_ti c6 (k := 2) (by decide)
    have tc8 := dw_ti c8 (k := 3) (by decide)
    have tc10 := dw_ti c10 (k := 4) (by decide)
    have tc12 := dw_ti c12 (k := 5) (by decide)
    refine lv_tableOut (tgt := 135) hx hb dX9_at_17 (by omega) (by decide) ?_
    refine lv_iconst (v := (-1 : Int32)) hx hb dX9_at_135 (by decide) ?_
    obtain rfl := dw_s1 h
    exact dw_iret C0 Z hr hlk dX9_at_136
  · have h := dw_ifT c1 h
    refine lv_iconst (v := (-1 : Int32)) hx hb dX9_at_14 (by decide) ?_
    obtain rfl := dw_s1 h
    exact dw_iret C0 Z hr hlk dX9_at_15

def fX9_all (μ : dw_M) (a1 : Int32) : Option (Int32) :=
  if a1 = (0 : Int32) then (
  dw_bd (fX9_sum μ 54) (fun r3 =>
  some r3))
  else (
  if a1 = (1 : Int32) then (
  dw_bd (fX9_sum μ 55) (fun r6 =>
  some r6))
  else (
  if a1 = (2 : Int32) then (
  dw_bd (fX9_sum μ 56) (fun r9 =>
  some r9))
  else (
  if a1 = (3 : Int32) then (
  dw_gd (dw_ok (a1 - (3 : Int32)) 4) (
  some (μ.1 59 (a1 - (3 : Int32)).toNatClampNeg)))
  else (
  if a1 = (4 : Int32) then (
  dw_gd (dw_ok (a1 - (3 : Int32)) 4) (
  some (μ.1 59 (a1 - (3 : Int32)).toNatClampNeg)))
  else (
  if a1 = (5 : Int32) then (
  dw_gd (dw_ok (a1 - (3 : Int32)) 4) (
  some (μ.1 59 (a1 - (3 : Int32)).toNatClampNeg)))
  else (
  if a1 = (6 : Int32) then (
  dw_gd (dw_ok (a1 - (3 : Int32)) 4) (
  some (μ.1 59 (a1 - (3 : Int32)).toNatClampNeg)))
  else (
  if a1 = (7 : Int32) then (
  some (μ.1 53 7))
  else (
  some (-1 : Int32)))))))))
set_option maxHeartbeats 4000000 in
set_option maxRecDepth 100000 in
theorem kX9_all (l : Launch) (Γ : dw_G) (hj : dw_inj Γ) (μ : dw_M) (a1 : Int32) {r : Int32} (h : fX9_all μ a1 = some r) : Met l yX9_all (dw_ws yX9_all cX9_all 2 (some .int)) (dw_rm 1 22) (dw_P Γ ([.ref (dw_ad Γ 0), .int a1] : List Value) μ) (dw_Qi Γ r μ) 0 0 (dw_A Γ) := by
  refine dw_met (own := RX9) rfl rfl (Nat.le_of_ble_eq_true rfl) hj ?_
  intro p e s m below meth c C0 hr hlk Z ls hl
  have hx := C0.1
  have hb := C0.2.1
  have hl : lv_has ls 2 [(0, .ref (dw_ad Γ 0)), (1, .int a1)] := hl
  suffices key : ∀ (H : Heap) (locs : List Loc), dw_Z Γ (dw_A Γ) s.heap μ H locs → W p l e (dw_rm 1 22) s m ([.ref (dw_ad Γ 0), .int a1] : List Value).toArray below meth c H locs 0 0 (MQ below (dw_Qi Γ r μ) ([.ref (dw_ad Γ 0), .int a1] : List Value).toArray s 0 0 (dw_A Γ)) (F0 m 0 ls []) from key _ _ Z
  clear Z
  intro H locs Z
  unfold fX9_all at h
  refine lv_iload_n hx hb dX9_all_0 rfl (lv_at hl 1 rfl) ?_
  by_cases c1 : a1 = (0 : Int32)
  · have h := dw_ifT c1 h
    refine lv_tableIn (off := 47) (tgt := 48) hx hb dX9_all_1 (by rw [c1]; decide) (by rw [c1]; decide) (by rw [c1]; rfl) (by decide) ?_
    refine lv_aload_n hx hb dX9_all_48 rfl (lv_at hl 0 rfl) ?_
    refine dw_g9_0 (t := 1) C0 Z dw_kc0 tw_fX9_12 rfl dX9_all_49 ?_
    refine dw_g6_3 (t := 53) C0 Z dw_kc1 tw_fX9_77 rfl dX9_all_52 ?_
    refine dw_g8_0 (t := 54) C0 Z dw_kc53 tw_fX9_250 rfl dX9_all_55 ?_
    obtain ⟨r3, hc2, h⟩ := dw_bdS h
    refine dw_cSi C0 Z dw_hA (As := [.ref (dw_ad Γ 54)]) (rest := []) (kX9_sum l Γ hj μ 54 dw_kc54 hc2) (dw_gS tw_lX9_238 tw_sX9_sum tw_iX9 tw_kX9_sum) dw_hX9_sum ⟨Nat.le_of_ble_eq_true rfl, Nat.le_of_ble_eq_true rfl⟩ ⟨Nat.zero_le _, Nat.zero_le _⟩ hl.1 (Nat.le_of_ble_eq_true rfl) rfl dX9_all_58 (fun H locs Z => ?_)
    obtain rfl := dw_s1 h
    exact dw_iret C0 Z hr hlk dX9_all_61
  have h := dw_ifF c1 h
  by_cases c4 : a1 = (1 : Int32)
  · have h := dw_ifT c4 h
    refine lv_tableIn (off := 61) (tgt := 62) hx hb dX9_all_1 (by rw [c4]; decide) (by rw [c4]; decide) (by rw [c4]; rfl) (by decide) ?_
    refine lv_aload_n hx hb dX9_all_62 rfl (lv_at hl 0 rfl) ?_
    refine dw_g9_0 (t := 1) C0 Z dw_kc0 tw_fX9_12 rfl dX9_all_63 ?_
    refine dw_g6_3 (t := 53) C0 Z dw_kc1 tw_fX9_77 rfl dX9_all_66 ?_
    refine dw_g8_1 (t := 55) C0 Z dw_kc53 tw_fX9_253 rfl dX9_all_69 ?_
    obtain ⟨r6, hc5, h⟩ := dw_bdS h
    refine dw_cSi C0 Z dw_hA (As := [.ref (dw_ad Γ 55)]) (rest := []) (kX9_sum l Γ hj μ 55 dw_kc55 hc5) (dw_gS tw_lX9_238 tw_sX9_sum tw_iX9 tw_kX9_sum) dw_hX9_sum ⟨Nat.le_of_ble_eq_true rfl, Nat.le_of_ble_eq_true rfl⟩ ⟨Nat.zero_le _, Nat.zero_le _⟩ hl.1 (Nat.le_of_ble_eq_true rfl) rfl dX9_all_72 (fun H locs Z => ?_)
    obtain rfl := dw_s1 h
    exact dw_iret C0 Z hr hlk dX9_all_75
  have h := dw_ifF c4 h
  by_cases c7 : a1 = (2 : Int32)
  · have h := dw_ifT c7 h
    refine lv_tableIn (off := 75) (tgt := 76) hx hb dX9_all_1 (by rw [c7]; decide) (by rw [c7]; decide) (by rw [c7]; rfl) (by decide) ?_
    refine lv_aload_n hx hb dX9_all_76 rfl (lv_at hl 0 rfl) ?_
    refine dw_g9_0 (t := 1) C0 Z dw_kc0 tw_fX9_12 rfl dX9_all_77 ?_
    refine dw_g6_3 (t := 53) C0 Z dw_kc1 tw_fX9_77 rfl dX9_all_80 ?_
    refine dw_g8_2 (t := 56) C0 Z dw_kc53 tw_fX9_222 rfl dX9_all_83 ?_
    obtain ⟨r9, hc8, h⟩ := dw_bdS h
    refine dw_cSi C0 Z dw_hA (As := [.ref (dw_ad Γ 56)]) (rest := []) (kX9_sum l Γ hj μ 56 dw_kc56 hc8) (dw_gS tw_lX9_238 tw_sX9_sum tw_iX9 tw_kX9_sum) dw_hX9_sum ⟨Nat.le_of_ble_eq_true rfl, Nat.le_of_ble_eq_true rfl⟩ ⟨Nat.zero_le _, Nat.zero_le _⟩ hl.1 (Nat.le_of_ble_eq_true rfl) rfl dX9_all_86 (fun H locs Z => ?_)
    obtain rfl := dw_s1 h
    exact dw_iret C0 Z hr hlk dX9_all_89
  have h := dw_ifF c7 h
  by_cases c10 : a1 = (3 : Int32)
  · have h := dw_ifT c10 h
    refine lv_tableIn (off := 89) (tgt := 90) hx hb dX9_all_1 (by rw [c10]; decide) (by rw [c10]; decide) (by rw [c10]; rfl) (by decide) ?_
    refine lv_aload_n hx hb dX9_all_90 rfl (lv_at hl 0 rfl) ?_
    refine dw_g9_0 (t := 1) C0 Z dw_kc0 tw_fX9_12 rfl dX9_all_91 ?_
    refine dw_g6_3 (t := 53) C0 Z dw_kc1 tw_fX9_77 rfl dX9_all_94 ?_
    refine dw_g8_5 (t := 59) C0 Z dw_kc53 tw_fX9_235 rfl dX9_all_97 ?_
    refine lv_iload_n hx hb dX9_all_100 rfl (lv_at hl 1 rfl) ?_
    refine lv_iconst (v := (3 : Int32)) hx hb dX9_all_101 (by decide) ?_
    refine lv_isub hx hb dX9_all_102 ?_
    obtain ⟨g11, h⟩ := dw_gdS h
    refine dw_ald C0 Z dw_kc59 dw_lc59 g11 dX9_all_103 ?_
    obtain rfl := dw_s1 h
    exact dw_iret C0 Z hr hlk dX9_all_104
  have h := dw_ifF c10 h
  by_cases c12 : a1 = (4 : Int32)
  · have h := dw_ifT c12 h
    refine lv_tableIn (off := 89) (tgt := 90) hx hb dX9_all_1 (by rw [c12]; decide) (by rw [c12]; decide) (by rw [c12]; rfl) (by decide) ?_
    refine lv_aload_n hx hb dX9_all_90 rfl (lv_at hl 0 rfl) ?_
    refine dw_g9_0 (t := 1) C0 Z dw_kc0 tw_fX9_12 rfl dX9_all_91 ?_
    refine dw_g6_3 (t := 53) C0 Z dw_kc1 tw_fX9_77 rfl dX9_all_94 ?_
    refine dw_g8_5 (t := 59) C0 Z dw_kc53 tw_fX9_235 rfl dX9_all_97 ?_
    refine lv_iload_n hx hb dX9_all_100 rfl (lv_at hl 1 rfl) ?_
    refine lv_iconst (v := (3 : Int32)) hx hb dX9_all_101 (by decide) ?_
    refine lv_isub hx hb dX9_all_102 ?_
    obtain ⟨g13, h⟩ := dw_gdS h
    refine dw_ald C0 Z dw_kc59 dw_lc59 g13 dX9_all_103 ?_
    obtain rfl := dw_s1 h
    exact dw_iret C0 Z hr hlk dX9_all_104
  have h := dw_ifF c12 h
  by_cases c14 : a1 = (5 : Int32)
  · have h := dw_ifT c14 h
    refine lv_tableIn (off := 89) (tgt := 90) hx hb dX9_all_1 (by rw [c14]; decide) (by rw [c14]; decide) (by rw [c14]; rfl) (by decide) ?_
    refine lv_aload_n hx hb dX9_all_90 rfl (lv_at hl 0 rfl) ?_
    refine dw_g9_0 (t := 1) C0 Z dw_kc0 tw_fX9_12 rfl dX9_all_91 ?_
    refine dw_g6_3 (t := 53) C0 Z dw_kc1 tw_fX9_77 rfl dX9_all_94 ?_
    refine dw_g8_5 (t := 59) C0 Z dw_kc53 tw_fX9_235 rfl dX9_all_97 ?_
    refine lv_iload_n hx hb dX9_all_100 rfl (lv_at hl 1 rfl) ?_
    refine lv_iconst (v := (3 : Int32)) hx hb dX9_all_101 (by decide) ?_
    refine lv_isub hx hb dX9_all_102 ?_
    obtain ⟨g15, h⟩ := dw_gdS h
    refine dw_ald C0 Z dw_kc59 dw_lc59 g15 dX9_all_103 ?_
    obtain rfl := dw_s1 h
    exact dw_iret C0 Z hr hlk dX9_all_104
  have h := dw_ifF c14 h
  by_cases c16 : a1 = (6 : Int32)
  · have h := dw_ifT c16 h
    refine lv_tableIn (off := 89) (tgt := 90) hx hb dX9_all_1 (by rw [c16]; decide) (by rw [c16]; decide) (by rw [c16]; rfl) (by decide) ?_
    refine lv_aload_n hx hb dX9_all_90 rfl (lv_at hl 0 rfl) ?_
    refine dw_g9_0 (t := 1) C0 Z dw_kc0 tw_fX9_12 rfl dX9_all_91 ?_
    refine dw_g6_3 (t := 53) C0 Z dw_kc1 tw_fX9_77 rfl dX9_all_94 ?_
    refine dw_g8_5 (t := 59) C0 Z dw_kc53 tw_fX9_235 rfl dX9_all_97 ?_
    refine lv_iload_n hx hb dX9_all_100 rfl (lv_at hl 1 rfl) ?_
    refine lv_iconst (v := (3 : Int32)) hx hb dX9_all_101 (by decide) ?_
    refine lv_isub hx hb dX9_all_102 ?_
    obtain ⟨g17, h⟩ := dw_gdS h
    refine dw_ald C0 Z dw_kc59 dw_lc59 g17 dX9_all_103 ?_
    obtain rfl := dw_s1 h
    exact dw_iret C0 Z hr hlk dX9_all_104
  have h := dw_ifF c16 h
  by_cases c18 : a1 = (7 : Int32)
  · have h := dw_ifT c18 h
    refine lv_tableIn (off := 104) (tgt := 105) hx hb dX9_all_1 (by rw [c18]; decide) (by rw [c18]; decide) (by rw [c18]; rfl) (by decide) ?_
    refine lv_aload_n hx hb dX9_all_105 rfl (lv_at hl 0 rfl) ?_
    refine dw_g9_0 (t := 1) C0 Z dw_kc0 tw_fX9_12 rfl dX9_all_106 ?_
    refine dw_g6_3 (t := 53) C0 Z dw_kc1 tw_fX9_77 rfl dX9_all_109 ?_
    refine dw_g8_7 C0 Z dw_kc53 tw_fX9_259 dX9_all_112 ?_
    obtain rfl := dw_s1 h
    exact dw_iret C0 Z hr hlk dX9_all_115
  have h := dw_ifF c18 h
  have tc1 := dw_ti c1 (k := 0) (by decide)
  have tc4 := dw_ti c4 (k := 1) (by decide)
  have tc7 := dw_ti c7 (k := 2) (by decide)
  have tc10 := dw_ti c10 (k := 3) (by decide)
  have tc12 := dw_ti c12 (k := 4) (by decide)
  have tc14 := dw_ti c14 (k := 5) (by decide)
  have tc16 := dw_ti c16 (k := 6) (by decide)
  have tc18 := dw_ti c18 (k := 7) (by decide)
  refine lv_tableOut (tgt := 116) hx hb dX9_all_1 (by omega) (by decide) ?_
  refine lv_iconst (v := (-1 : Int32)) hx hb dX9_all_116 (by decide) ?_
  obtain rfl := dw_s1 h
  exact dw_iret C0 Z hr hlk dX9_all_117

def fX9_many (μ : dw_M) (a1 : Int32) : Option (Int32) :=
  if a1 = (0 : Int32) then (
  some (μ.1 2 1))
  else (
  if a1 = (1 : Int32) then (
  some (μ.1 11 1))
  else (
  if a1 = (2 : Int32) then (
  some (μ.1 53 8))
  else (
  if a1 = (3 : Int32) then (
  dw_bd (fX6_countUnreached μ) (fun r6 =>
  some r6))
  else (
  if a1 = (4 : Int32) then (
  some (fX2_size μ 62))
  else (
  if a1 = (5 : Int32) then (
  some (fX2_size μ 63))
  else (
  if a1 = (6 : Int32) then (
  some (fX2_size μ 60))
  else (
  some (-1 : Int32))))))))
set_option maxHeartbeats 4000000 in
set_option maxRecDepth 100000 in
theorem kX9_many (l : Launch) (Γ : dw_G) (hj : dw_inj Γ) (μ : dw_M) (a1 : Int32) {r : Int32} (h : fX9_many μ a1 = some r) : Met l yX9_many (dw_ws yX9_many cX9_many 2 (some .int)) (dw_rm 5 116) (dw_P Γ ([.ref (dw_ad Γ 0), .int a1] : List Value) μ) (dw_Qi Γ r μ) 0 0 (dw_A Γ) := by
  refine dw_met (own := RX9) rfl rfl (Nat.le_of_ble_eq_true rfl) hj ?_
  intro p e s m below meth c C0 hr hlk Z ls hl
  have hx := C0.1
  have hb := C0.2.1
  have hl : lv_has ls 2 [(0, .ref (dw_ad Γ 0)), (1, .int a1)] := hl
  suffices key : ∀ (H : Heap) (locs : List Loc), dw_Z Γ (dw_A Γ) s.heap μ H locs → W p l e (dw_rm 5 116) s m ([.ref (dw_ad Γ 0), .int a1] : List Value).toArray below meth c H locs 0 0 (MQ below (dw_Qi Γ r μ) ([.ref (dw_ad Γ 0), .int a1] : List Value).toArray s 0 0 (dw_A Γ)) (F0 m 0 ls []) from key _ _ Z
  clear Z
  intro H locs Z
  unfold fX9_many at h
  refine lv_iload_n hx hb dX9_many_0 rfl (lv_at hl 1 rfl) ?_
  by_cases c1 : a1 = (0 : Int32)
  · have h := dw_ifT c1 h
    refine lv_tableIn (off := 43) (tgt := 44) hx hb dX9_many_1 (by rw [c1]; decide) (by rw [c1]; decide) (by rw [c1]; rfl) (by decide) ?_
    refine lv_aload_n hx hb dX9_many_44 rfl (lv_at hl 0 rfl) ?_
    refine dw_g9_0 (t := 1) C0 Z dw_kc0 tw_fX9_12 rfl dX9_many_45 ?_
    refine dw_g6_0 (t := 2) C0 Z dw_kc1 tw_fX9_48 rfl dX9_many_48 ?_
    refine dw_g1_1 C0 Z dw_kc2 tw_fX9_99 dX9_many_51 ?_
    obtain rfl := dw_s1 h
    exact dw_iret C0 Z hr hlk dX9_many_54
  have h := dw_ifF c1 h
  by_cases c2 : a1 = (1 : Int32)
  · have h := dw_ifT c2 h
    refine lv_tableIn (off := 54) (tgt := 55) hx hb dX9_many_1 (by rw [c2]; decide) (by rw [c2]; decide) (by rw [c2]; rfl) (by decide) ?_
    refine lv_aload_n hx hb dX9_many_55 rfl (lv_at hl 0 rfl) ?_
    refine dw_g9_0 (t := 1) C0 Z dw_kc0 tw_fX9_12 rfl dX9_many_56 ?_
    refine dw_g6_2 (t := 11) C0 Z dw_kc1 tw_fX9_67 rfl dX9_many_59 ?_
    refine dw_g4_1 C0 Z dw_kc11 tw_fX9_71 dX9_many_62 ?_
    obtain rfl := dw_s1 h
    exact dw_iret C0 Z hr hlk dX9_many_65
  have h := dw_ifF c2 h
  by_cases c3 : a1 = (2 : Int32)
  · have h := dw_ifT c3 h
    refine lv_tableIn (off := 65) (tgt := 66) hx hb dX9_many_1 (by rw [c3]; decide) (by rw [c3]; decide) (by rw [c3]; rfl) (by decide) ?_
    refine lv_aload_n hx hb dX9_many_66 rfl (lv_at hl 0 rfl) ?_
    refine dw_g9_0 (t := 1) C0 Z dw_kc0 tw_fX9_12 rfl dX9_many_67 ?_
    refine dw_g6_3 (t := 53) C0 Z dw_kc1 tw_fX9_77 rfl dX9_many_70 ?_
    refine dw_g8_8 C0 Z dw_kc53 tw_fX9_262 dX9_many_73 ?_
    obtain rfl := dw_s1 h
    exact dw_iret C0 Z hr hlk dX9_many_76
  have h := dw_ifF c3 h
  by_cases c4 : a1 = (3 : Int32)
  · have h := dw_ifT c4 h
    refine lv_tableIn (off := 76) (tgt := 77) hx hb dX9_many_1 (by rw [c4]; decide) (by rw [c4]; decide) (by rw [c4]; rfl) (by decide) ?_
    refine lv_aload_n hx hb dX9_many_77 rfl (lv_at hl 0 rfl) ?_
    refine dw_g9_0 (t := 1) C0 Z dw_kc0 tw_fX9_12 rfl dX9_many_78 ?_
    obtain ⟨r6, hc5, h⟩ := dw_bdS h
    refine dw_cVi C0 Z dw_hA (dw_lt dw_kc1 (by decide)) (dw_cz6 dw_kc1) rfl (As := []) (rest := []) (kX6_countUnreached l Γ hj μ hc5) (dw_gV tw_lX9_265 tw_vX6_countUnreached tw_eX6_countUnreached tw_iX6 tw_kX6_countUnreached) dw_hX6_countUnreached ⟨Nat.le_of_ble_eq_true rfl, Nat.le_of_ble_eq_true rfl⟩ ⟨Nat.zero_le _, Nat.zero_le _⟩ hl.1 (Nat.le_of_ble_eq_true rfl) rfl dX9_many_81 (fun H locs Z => ?_)
    obtain rfl := dw_s1 h
    exact dw_iret C0 Z hr hlk dX9_many_84
  have h := dw_ifF c4 h
  by_cases c7 : a1 = (4 : Int32)
  · have h := dw_ifT c7 h
    refine lv_tableIn (off := 84) (tgt := 85) hx hb dX9_many_1 (by rw [c7]; decide) (by rw [c7]; decide) (by rw [c7]; rfl) (by decide) ?_
    refine lv_aload_n hx hb dX9_many_85 rfl (lv_at hl 0 rfl) ?_
    refine dw_g9_0 (t := 1) C0 Z dw_kc0 tw_fX9_12 rfl dX9_many_86 ?_
    refine dw_g6_5 (t := 62) C0 Z dw_kc1 tw_fX9_89 rfl dX9_many_89 ?_
    refine dw_cVi C0 Z dw_hA (dw_lt dw_kc62 (by decide)) (dw_cz2 dw_kc62) rfl (As := []) (rest := []) (kX2_size l Γ hj μ 62 dw_kc62 rfl) (dw_gV tw_lX9_269 tw_vX2_size tw_eX2_size tw_iX2 tw_kX2_size) dw_hX2_size ⟨Nat.le_of_ble_eq_true rfl, Nat.le_of_ble_eq_true rfl⟩ ⟨Nat.zero_le _, Nat.zero_le _⟩ hl.1 (Nat.le_of_ble_eq_true rfl) rfl dX9_many_92 (fun H locs Z => ?_)
    obtain rfl := dw_s1 h
    exact dw_iret C0 Z hr hlk dX9_many_95
  have h := dw_ifF c7 h
  by_cases c8 : a1 = (5 : Int32)
  · have h := dw_ifT c8 h
    refine lv_tableIn (off := 95) (tgt := 96) hx hb dX9_many_1 (by rw [c8]; decide) (by rw [c8]; decide) (by rw [c8]; rfl) (by decide) ?_
    refine lv_aload_n hx hb dX9_many_96 rfl (lv_at hl 0 rfl) ?_
    refine dw_g9_0 (t := 1) C0 Z dw_kc0 tw_fX9_12 rfl dX9_many_97 ?_
    refine dw_g6_6 (t := 63) C0 Z dw_kc1 tw_fX9_96 rfl dX9_many_100 ?_
    refine dw_cVi C0 Z dw_hA (dw_lt dw_kc63 (by decide)) (dw_cz2 dw_kc63) rfl (As := []) (rest := []) (kX2_size l Γ hj μ 63 dw_kc63 rfl) (dw_gV tw_lX9_269 tw_vX2_size tw_eX2_size tw_iX2 tw_kX2_size) dw_hX2_size ⟨Nat.le_of_ble_eq_true rfl, Nat.le_of_ble_eq_true rfl⟩ ⟨Nat.zero_le _, Nat.zero_le _⟩ hl.1 (Nat.le_of_ble_eq_true rfl) rfl dX9_many_103 (fun H locs Z => ?_)
    obtain rfl := dw_s1 h
    exact dw_iret C0 Z hr hlk dX9_many_106
  have h := dw_ifF c8 h
  by_cases c9 : a1 = (6 : Int32)
  · have h := dw_ifT c9 h
    refine lv_tableIn (off := 106) (tgt := 107) hx hb dX9_many_1 (by rw [c9]; decide) (by rw [c9]; decide) (by rw [c9]; rfl) (by decide) ?_
    refine lv_aload_n hx hb dX9_many_107 rfl (lv_at hl 0 rfl) ?_
    refine dw_g9_0 (t := 1) C0 Z dw_kc0 tw_fX9_12 rfl dX9_many_108 ?_
    refine dw_g6_3 (t := 53) C0 Z dw_kc1 tw_fX9_77 rfl dX9_many_111 ?_
    refine dw_g8_6 (t := 60) C0 Z dw_kc53 tw_fX9_203 rfl dX9_many_114 ?_
    refine dw_cVi C0 Z dw_hA (dw_lt dw_kc60 (by decide)) (dw_cz2 dw_kc60) rfl (As := []) (rest := []) (kX2_size l Γ hj μ 60 dw_kc60 rfl) (dw_gV tw_lX9_269 tw_vX2_size tw_eX2_size tw_iX2 tw_kX2_size) dw_hX2_size ⟨Nat.le_of_ble_eq_true rfl, Nat.le_of_ble_eq_true rfl⟩ ⟨Nat.zero_le _, Nat.zero_le _⟩ hl.1 (Nat.le_of_ble_eq_true rfl) rfl dX9_many_117 (fun H locs Z => ?_)
    obtain rfl := dw_s1 h
    exact dw_iret C0 Z hr hlk dX9_many_120
  have h := dw_ifF c9 h
  have tc1 := dw_ti c1 (k := 0) (by decide)
  have tc2 := dw_ti c2 (k := 1) (by decide)
  have tc3 := dw_ti c3 (k := 2) (by decide)
  have tc4 := dw_ti c4 (k := 3) (by decide)
  have tc7 := dw_ti c7 (k := 4) (by decide)
  have tc8 := dw_ti c8 (k := 5) (by decide)
  have tc9 := dw_ti c9 (k := 6) (by decide)
  refine lv_tableOut (tgt := 121) hx hb dX9_many_1 (by omega) (by decide) ?_
  refine lv_iconst (v := (-1 : Int32)) hx hb dX9_many_121 (by decide) ?_
  obtain rfl := dw_s1 h
  exact dw_iret C0 Z hr hlk dX9_many_122

def sX9_dry_4 (μ : dw_M) (x1 : Int32) (x2 : Int32) : Option ((Int32 × Int32) ⊕ ((Unit) ⊕ (Int32))) :=
  if (μ.1 2 1) ≤ x2 then (
  some (.inr (.inl ())))
  else (
  dw_bd (fX6_isReached μ x2) (fun r5 =>
  if r5 = 0 then (
  if x1 = 0 then (
  some (.inr (.inr x2)))
  else (
  dw_nm (x1 + (-1 : Int32)) (fun x9 =>
  dw_nm (x2 + (1 : Int32)) (fun x10 =>
  some (.inl (x9, x10))))))
  else (
  dw_nm (x2 + (1 : Int32)) (fun x7 =>
  some (.inl (x1, x7))))))
def fX9_dry (μ : dw_M) (a1 : Int32) : Option (Int32) :=
  dw_bd (dw_wh (fun v => sX9_dry_4 μ v.1 v.2) 1000 (a1, (0 : Int32)))
    (Sum.elim (fun _ => some (-6 : Int32)) (fun r => some r))
set_option maxHeartbeats 4000000 in
set_option maxRecDepth 100000 in
theorem kX9_dry (l : Launch) (Γ : dw_G) (hj : dw_inj Γ) (μ : dw_M) (a1 : Int32) {r : Int32} (h : fX9_dry μ a1 = some r) : Met l yX9_dry (dw_ws yX9_dry cX9_dry 4 (some .int)) (dw_rm 4 94) (dw_P Γ ([.ref (dw_ad Γ 0), .int a1] : List Value) μ) (dw_Qi Γ r μ) 0 0 (dw_A Γ) := by
  refine dw_met (own := RX9) rfl rfl (Nat.le_of_ble_eq_true rfl) hj ?_
  intro p e s m below meth c C0 hr hlk Z ls hl
  have hx := C0.1
  have hb := C0.2.1
  have hl : lv_has ls 4 [(0, .ref (dw_ad Γ 0)), (1, .int a1)] := hl
  suffices key : ∀ (H : Heap) (locs : List Loc), dw_Z Γ (dw_A Γ) s.heap μ H locs → W p l e (dw_rm 4 94) s m ([.ref (dw_ad Γ 0), .int a1] : List Value).toArray below meth c H locs 0 0 (MQ below (dw_Qi Γ r μ) ([.ref (dw_ad Γ 0), .int a1] : List Value).toArray s 0 0 (dw_A Γ)) (F0 m 0 ls []) from key _ _ Z
  clear Z
  intro H locs Z
  unfold fX9_dry at h
  refine lv_iload_n hx hb dX9_dry_0 rfl (lv_at hl 1 rfl) ?_
  refine lv_istore_n (lv' := [(2, .int a1), (0, .ref (dw_ad Γ 0)), (1, .int a1)]) hx hb dX9_dry_1 rfl hl (by decide) rfl (fun ls hl => ?_)
  refine lv_iconst (v := (0 : Int32)) hx hb dX9_dry_2 (by decide) ?_
  refine lv_istore_n (lv' := [(3, .int (0 : Int32)), (2, .int a1), (0, .ref (dw_ad Γ 0)), (1, .int a1)]) hx hb dX9_dry_3 rfl hl (by decide) rfl (fun ls hl => ?_)
  obtain ⟨kc4, ekc4, h⟩ := dw_bdK h
  have E4 : ∀ (H : Heap) (locs : List Loc) (ls : Array Slot), dw_Z Γ (dw_A Γ) s.heap μ H locs → lv_has ls 4 [] → kc4 (.inl ()) = some r → W p l e (dw_rm 4 94) s m ([.ref (dw_ad Γ 0), .int a1] : List Value).toArray below meth c H locs 0 0 (MQ below (dw_Qi Γ r μ) ([.ref (dw_ad Γ 0), .int a1] : List Value).toArray s 0 0 (dw_A Γ)) (F0 m 44 ls []) := by
    intro  H locs ls Z hl h
    rw [ekc4] at h
    dsimp only [Sum.elim] at h
    refine lv_bipush (v := (-6 : Int32)) hx hb dX9_dry_44 (by decide) ?_
    obtain rfl := dw_s1 h
    exact dw_iret C0 Z hr hlk dX9_dry_46
  have L4 : ∀ (n4 : Nat) (x1 : Int32) (x2 : Int32) (H : Heap) (locs : List Loc) (ls : Array Slot), dw_Z Γ (dw_A Γ) s.heap μ H locs → lv_has ls 4 [(0, .ref (dw_ad Γ 0)), (2, .int x1), (3, .int x2)] → dw_bd (dw_wh (fun v => sX9_dry_4 μ v.1 v.2) n4 (x1, x2)) kc4 = some r → W p l e (dw_rm 4 94) s m ([.ref (dw_ad Γ 0), .int a1] : List Value).toArray below meth c H locs 0 0 (MQ below (dw_Qi Γ r μ) ([.ref (dw_ad Γ 0), .int a1] : List Value).toArray s 0 0 (dw_A Γ)) (F0 m 4 ls []) := by
    clear h
    intro n4
    induction n4 with
    | zero =>
      intro x1 x2 H locs ls Z hl h
      exact (dw_wh0 h).elim
    | succ n4 ih4 =>
      intro x1 x2 H locs ls Z hl h
      obtain ⟨q4, hs, hq4⟩ := dw_whB h
      have h : sX9_dry_4 μ x1 x2 = some q4 := hs
      unfold sX9_dry_4 at h
      refine lv_iload_n hx hb dX9_dry_4 rfl (lv_at hl 2 rfl) ?_
      refine lv_aload_n hx hb dX9_dry_5 rfl (lv_at hl 0 rfl) ?_
      refine dw_g9_0 (t := 1) C0 Z dw_kc0 tw_fX9_12 rfl dX9_dry_6 ?_
      refine dw_g6_0 (t := 2) C0 Z dw_kc1 tw_fX9_48 rfl dX9_dry_9 ?_
      refine dw_g1_1 C0 Z dw_kc2 tw_fX9_99 dX9_dry_12 ?_
      refine lv_icmp_ge (tgt := 44) hx hb dX9_dry_15 (by decide) (fun c3 => ?_) (fun c3 => ?_)
      · have h := dw_ifT c3 h
        obtain rfl := dw_s1 h
        exact E4  H locs ls Z (lv_sub hl [] rfl) hq4
      · have h := dw_ifF c3 h
        refine lv_aload_n hx hb dX9_dry_18 rfl (lv_at hl 0 rfl) ?_
        refine dw_g9_0 (t := 1) C0 Z dw_kc0 tw_fX9_12 rfl dX9_dry_19 ?_
        refine lv_iload_n hx hb dX9_dry_22 rfl (lv_at hl 2 rfl) ?_
        obtain ⟨r5, hc4, h⟩ := dw_bdS h
        refine dw_cVi C0 Z dw_hA (dw_lt dw_kc1 (by decide)) (dw_cz6 dw_kc1) rfl (As := [.int x2]) (rest := []) (kX6_isReached l Γ hj μ x2 hc4) (dw_gV tw_lX9_256 tw_vX6_isReached tw_eX6_isReached tw_iX6 tw_kX6_isReached) dw_hX6_isReached ⟨Nat.le_of_ble_eq_true rfl, Nat.le_of_ble_eq_true rfl⟩ ⟨Nat.zero_le _, Nat.zero_le _⟩ hl.1 (Nat.le_of_ble_eq_true rfl) rfl dX9_dry_23 (fun H locs Z => ?_)
        refine lv_if_ne (tgt := 38) hx hb dX9_dry_26 (by decide) (fun c6 => ?_) (fun c6 => ?_)
        · have h := dw_ifF c6 h
          obtain ⟨x7, ex7⟩ := dw_eg (x2 + (1 : Int32))
          have h := dw_nmS ex7 h
          refine lv_iinc (v := x7) (lv' := [(3, .int x7), (0, .ref (dw_ad Γ 0)), (2, .int x1)]) hx hb dX9_dry_38 hl (k := 2) rfl (by rw [ex7]; rfl) (by decide) rfl (fun ls hl => ?_)
          refine lv_goto (tgt := 4) hx hb dX9_dry_41 (by decide) ?_
          obtain rfl := dw_s1 h
          exact ih4 x1 x7 H locs ls Z (lv_sub hl [1, 2, 0] rfl) hq4
        · have h := dw_ifT c6 h
          refine lv_iload_n hx hb dX9_dry_29 rfl (lv_at hl 1 rfl) ?_
          refine lv_if_ne (tgt := 35) hx hb dX9_dry_30 (by decide) (fun c8 => ?_) (fun c8 => ?_)
          · have h := dw_ifF c8 h
            obtain ⟨x9, ex9⟩ := dw_eg (x1 + (-1 : Int32))
            have h := dw_nmS ex9 h
            refine lv_iinc (v := x9) (lv' := [(2, .int x9), (0, .ref (dw_ad Γ 0)), (3, .int x2)]) hx hb dX9_dry_35 hl (k := 1) rfl (by rw [ex9]; rfl) (by decide) rfl (fun ls hl => ?_)
            obtain ⟨x10, ex10⟩ := dw_eg (x2 + (1 : Int32))
            have h := dw_nmS ex10 h
            refine lv_iinc (v := x10) (lv' := [(3, .int x10), (2, .int x9), (0, .ref (dw_ad Γ 0))]) hx hb dX9_dry_38 hl (k := 2) rfl (by rw [ex10]; rfl) (by decide) rfl (fun ls hl => ?_)
            refine lv_goto (tgt := 4) hx hb dX9_dry_41 (by decide) ?_
            obtain rfl := dw_s1 h
            exact ih4 x9 x10 H locs ls Z (lv_sub hl [2, 1, 0] rfl) hq4
          · have h := dw_ifT c8 h
            refine lv_iload_n hx hb dX9_dry_33 rfl (lv_at hl 2 rfl) ?_
            obtain rfl := dw_s1 h
            have h := hq4
            dsimp only at h
            rw [ekc4] at h
            dsimp only [Sum.elim] at h
            obtain rfl := dw_s1 h
            exact dw_iret C0 Z hr hlk dX9_dry_34
  exact L4 1000 a1 (0 : Int32) H locs ls Z (lv_sub hl [2, 1, 0] rfl) h

def fX9_mark (μ : dw_M) (a1 : Int32) (a2 : Int32) : Int32 × dw_M :=
  if (fX1_hasPlace μ a1) = 0 then (
   ((-1 : Int32), μ))
  else (
  dw_n2 (fX2_put μ 62 a1 a2) (fun r3 μ2 =>
   (r3, μ2)))
set_option maxHeartbeats 4000000 in
set_option maxRecDepth 100000 in
theorem kX9_mark (l : Launch) (Γ : dw_G) (hj : dw_inj Γ) (μ : dw_M) (a1 : Int32) (a2 : Int32) {r : Int32} {ν : dw_M} (h : fX9_mark μ a1 a2 = (r, ν)) : Met l yX9_mark (dw_ws yX9_mark cX9_mark 3 (some .int)) (dw_rm 2 43) (dw_P Γ ([.ref (dw_ad Γ 0), .int a1, .int a2] : List Value) μ) (dw_Qi Γ r ν) 0 0 (dw_A Γ) := by
  refine dw_met (own := RX9) rfl rfl (Nat.le_of_ble_eq_true rfl) hj ?_
  intro p e s m below meth c C0 hr hlk Z ls hl
  have hx := C0.1
  have hb := C0.2.1
  have hl : lv_has ls 3 [(0, .ref (dw_ad Γ 0)), (1, .int a1), (2, .int a2)] := hl
  suffices key : ∀ (H : Heap) (locs : List Loc), dw_Z Γ (dw_A Γ) s.heap μ H locs → W p l e (dw_rm 2 43) s m ([.ref (dw_ad Γ 0), .int a1, .int a2] : List Value).toArray below meth c H locs 0 0 (MQ below (dw_Qi Γ r ν) ([.ref (dw_ad Γ 0), .int a1, .int a2] : List Value).toArray s 0 0 (dw_A Γ)) (F0 m 0 ls []) from key _ _ Z
  clear Z
  intro H locs Z
  unfold fX9_mark at h
  refine lv_aload_n hx hb dX9_mark_0 rfl (lv_at hl 0 rfl) ?_
  refine dw_g9_0 (t := 1) C0 Z dw_kc0 tw_fX9_12 rfl dX9_mark_1 ?_
  refine dw_g6_0 (t := 2) C0 Z dw_kc1 tw_fX9_48 rfl dX9_mark_4 ?_
  refine lv_iload_n hx hb dX9_mark_7 rfl (lv_at hl 1 rfl) ?_
  refine dw_cVi C0 Z dw_hA (dw_lt dw_kc2 (by decide)) (dw_cz1 dw_kc2) rfl (As := [.int a1]) (rest := []) (kX1_hasPlace l Γ hj μ a1 rfl) (dw_gV tw_lX9_102 tw_vX1_hasPlace tw_eX1_hasPlace tw_iX1 tw_kX1_hasPlace) dw_hX1_hasPlace ⟨Nat.le_of_ble_eq_true rfl, Nat.le_of_ble_eq_true rfl⟩ ⟨Nat.zero_le _, Nat.zero_le _⟩ hl.1 (Nat.le_of_ble_eq_true rfl) rfl dX9_mark_8 (fun H locs Z => ?_)
  refine lv_if_eq (tgt := 29) hx hb dX9_mark_11 (by decide) (fun c1 => ?_) (fun c1 => ?_)
  · have h := dw_ifT c1 h
    refine lv_iconst (v := (-1 : Int32)) hx hb dX9_mark_29 (by decide) ?_
    obtain ⟨rfl, rfl⟩ := dw_t2 h
    exact dw_iret C0 Z hr hlk dX9_mark_30
  · have h := dw_ifF c1 h
    refine lv_aload_n hx hb dX9_mark_14 rfl (lv_at hl 0 rfl) ?_
    refine dw_g9_0 (t := 1) C0 Z dw_kc0 tw_fX9_12 rfl dX9_mark_15 ?_
    refine dw_g6_5 (t := 62) C0 Z dw_kc1 tw_fX9_89 rfl dX9_mark_18 ?_
    refine lv_iload_n hx hb dX9_mark_21 rfl (lv_at hl 1 rfl) ?_
    refine lv_iload_n hx hb dX9_mark_22 rfl (lv_at hl 2 rfl) ?_
    obtain ⟨r3, μ2, eμ2, h⟩ := dw_n2S h
    refine dw_cVi C0 Z dw_hA (dw_lt dw_kc62 (by decide)) (dw_cz2 dw_kc62) rfl (As := [.int a1, .int a2]) (rest := []) (kX2_put l Γ hj μ 62 dw_kc62 a1 a2 eμ2) (dw_gV tw_lX9_206 tw_vX2_put tw_eX2_put tw_iX2 tw_kX2_put) dw_hX2_put ⟨Nat.le_of_ble_eq_true rfl, Nat.le_of_ble_eq_true rfl⟩ ⟨Nat.zero_le _, Nat.zero_le _⟩ hl.1 (Nat.le_of_ble_eq_true rfl) rfl dX9_mark_23 (fun H locs Z => ?_)
    refine lv_goto (tgt := 30) hx hb dX9_mark_26 (by decide) ?_
    obtain ⟨rfl, rfl⟩ := dw_t2 h
    exact dw_iret C0 Z hr hlk dX9_mark_30

def fX9_tree (μ : dw_M) : Option (Int32 × dw_M) :=
  dw_bd (fX7_grow μ) (fun μ2 =>
  some ((μ2.1 139 3), μ2))
set_option maxHeartbeats 4000000 in
set_option maxRecDepth 100000 in
theorem kX9_tree (l : Launch) (Γ : dw_G) (hj : dw_inj Γ) (μ : dw_M)  {r : Int32} {ν : dw_M} (h : fX9_tree μ = some (r, ν)) : Met l yX9_tree (dw_ws yX9_tree cX9_tree 1 (some .int)) (dw_rm 5 115) (dw_P Γ ([.ref (dw_ad Γ 0)] : List Value) μ) (dw_Qi Γ r ν) 0 0 (dw_A Γ) := by
  refine dw_met (own := RX9) rfl rfl (Nat.le_of_ble_eq_true rfl) hj ?_
  intro p e s m below meth c C0 hr hlk Z ls hl
  have hx := C0.1
  have hb := C0.2.1
  have hl : lv_has ls 1 [(0, .ref (dw_ad Γ 0))] := hl
  suffices key : ∀ (H : Heap) (locs : List Loc), dw_Z Γ (dw_A Γ) s.heap μ H locs → W p l e (dw_rm 5 115) s m ([.ref (dw_ad Γ 0)] : List Value).toArray below meth c H locs 0 0 (MQ below (dw_Qi Γ r ν) ([.ref (dw_ad Γ 0)] : List Value).toArray s 0 0 (dw_A Γ)) (F0 m 0 ls []) from key _ _ Z
  clear Z
  intro H locs Z
  unfold fX9_tree at h
  refine lv_aload_n hx hb dX9_tree_0 rfl (lv_at hl 0 rfl) ?_
  refine dw_g9_5 (t := 139) C0 Z dw_kc0 tw_fX9_36 rfl dX9_tree_1 ?_
  refine lv_aload_n hx hb dX9_tree_4 rfl (lv_at hl 0 rfl) ?_
  refine dw_g9_0 (t := 1) C0 Z dw_kc0 tw_fX9_12 rfl dX9_tree_5 ?_
  refine dw_g6_0 (t := 2) C0 Z dw_kc1 tw_fX9_48 rfl dX9_tree_8 ?_
  refine lv_aload_n hx hb dX9_tree_11 rfl (lv_at hl 0 rfl) ?_
  refine dw_g9_0 (t := 1) C0 Z dw_kc0 tw_fX9_12 rfl dX9_tree_12 ?_
  refine dw_g6_5 (t := 62) C0 Z dw_kc1 tw_fX9_89 rfl dX9_tree_15 ?_
  obtain ⟨μ2, hc1, h⟩ := dw_bdS h
  refine dw_cVv C0 Z dw_hA (dw_lt dw_kc139 (by decide)) (dw_cz7 dw_kc139) rfl (As := [.ref (dw_ad Γ 2), .ref (dw_ad Γ 62)]) (rest := []) (kX7_grow l Γ hj μ hc1) (dw_gV tw_lX9_272 tw_vX7_grow tw_eX7_grow tw_iX7 tw_kX7_grow) dw_hX7_grow ⟨Nat.le_of_ble_eq_true rfl, Nat.le_of_ble_eq_true rfl⟩ ⟨Nat.zero_le _, Nat.zero_le _⟩ hl.1 (Nat.le_of_ble_eq_true rfl) rfl dX9_tree_18 (fun H locs Z => ?_)
  refine lv_aload_n hx hb dX9_tree_21 rfl (lv_at hl 0 rfl) ?_
  refine dw_g9_5 (t := 139) C0 Z dw_kc0 tw_fX9_36 rfl dX9_tree_22 ?_
  refine dw_g7_3 C0 Z dw_kc139 tw_fX9_276 dX9_tree_25 ?_
  obtain ⟨rfl, rfl⟩ := dw_s2 h
  exact dw_iret C0 Z hr hlk dX9_tree_28

def fX9_pair (μ : dw_M) (a1 : Int32) : Option (Int32 × dw_M) :=
  dw_bd (fX7_grow μ) (fun μ2 =>
  if (fX9_isWithin a1 (0 : Int32) ((μ2.1 139 2) - (1 : Int32))) = 0 then (
  some ((-6 : Int32), μ2))
  else (
  dw_gd (dw_ok a1 36) (
  some ((μ2.1 141 a1.toNatClampNeg), μ2))))
set_option maxHeartbeats 4000000 in
set_option maxRecDepth 100000 in
theorem kX9_pair (l : Launch) (Γ : dw_G) (hj : dw_inj Γ) (μ : dw_M) (a1 : Int32) {r : Int32} {ν : dw_M} (h : fX9_pair μ a1 = some (r, ν)) : Met l yX9_pair (dw_ws yX9_pair cX9_pair 2 (some .int)) (dw_rm 5 115) (dw_P Γ ([.ref (dw_ad Γ 0), .int a1] : List Value) μ) (dw_Qi Γ r ν) 0 0 (dw_A Γ) := by
  refine dw_met (own := RX9) rfl rfl (Nat.le_of_ble_eq_true rfl) hj ?_
  intro p e s m below meth c C0 hr hlk Z ls hl
  have hx := C0.1
  have hb := C0.2.1
  have hl : lv_has ls 2 [(0, .ref (dw_ad Γ 0)), (1, .int a1)] := hl
  suffices key : ∀ (H : Heap) (locs : List Loc), dw_Z Γ (dw_A Γ) s.heap μ H locs → W p l e (dw_rm 5 115) s m ([.ref (dw_ad Γ 0), .int a1] : List Value).toArray below meth c H locs 0 0 (MQ below (dw_Qi Γ r ν) ([.ref (dw_ad Γ 0), .int a1] : List Value).toArray s 0 0 (dw_A Γ)) (F0 m 0 ls []) from key _ _ Z
  clear Z
  intro H locs Z
  unfold fX9_pair at h
  refine lv_aload_n hx hb dX9_pair_0 rfl (lv_at hl 0 rfl) ?_
  refine dw_g9_5 (t := 139) C0 Z dw_kc0 tw_fX9_36 rfl dX9_pair_1 ?_
  refine lv_aload_n hx hb dX9_pair_4 rfl (lv_at hl 0 rfl) ?_
  refine dw_g9_0 (t := 1) C0 Z dw_kc0 tw_fX9_12 rfl dX9_pair_5 ?_
  refine dw_g6_0 (t := 2) C0 Z dw_kc1 tw_fX9_48 rfl dX9_pair_8 ?_
  refine lv_aload_n hx hb dX9_pair_11 rfl (lv_at hl 0 rfl) ?_
  refine dw_g9_0 (t := 1) C0 Z dw_kc0 tw_fX9_12 rfl dX9_pair_12 ?_
  refine dw_g6_5 (t := 62) C0 Z dw_kc1 tw_fX9_89 rfl dX9_pair_15 ?_
  obtain ⟨μ2, hc1, h⟩ := dw_bdS h
  refine dw_cVv C0 Z dw_hA (dw_lt dw_kc139 (by decide)) (dw_cz7 dw_kc139) rfl (As := [.ref (dw_ad Γ 2), .ref (dw_ad Γ 62)]) (rest := []) (kX7_grow l Γ hj μ hc1) (dw_gV tw_lX9_272 tw_vX7_grow tw_eX7_grow tw_iX7 tw_kX7_grow) dw_hX7_grow ⟨Nat.le_of_ble_eq_true rfl, Nat.le_of_ble_eq_true rfl⟩ ⟨Nat.zero_le _, Nat.zero_le _⟩ hl.1 (Nat.le_of_ble_eq_true rfl) rfl dX9_pair_18 (fun H locs Z => ?_)
  refine lv_iload_n hx hb dX9_pair_21 rfl (lv_at hl 1 rfl) ?_
  refine lv_iconst (v := (0 : Int32)) hx hb dX9_pair_22 (by decide) ?_
  refine lv_aload_n hx hb dX9_pair_23 rfl (lv_at hl 0 rfl) ?_
  refine dw_g9_5 (t := 139) C0 Z dw_kc0 tw_fX9_36 rfl dX9_pair_24 ?_
  refine dw_g7_2 C0 Z dw_kc139 tw_fX9_279 dX9_pair_27 ?_
  refine lv_iconst (v := (1 : Int32)) hx hb dX9_pair_30 (by decide) ?_
  refine lv_isub hx hb dX9_pair_31 ?_
  refine dw_cSi C0 Z dw_hA (As := [.int a1, .int (0 : Int32), .int ((μ2.1 139 2) - (1 : Int32))]) (rest := []) (kX9_isWithin l Γ hj μ2 a1 (0 : Int32) ((μ2.1 139 2) - (1 : Int32)) rfl) (dw_gS tw_lX9_44 tw_sX9_isWithin tw_iX9 tw_kX9_isWithin) dw_hX9_isWithin ⟨Nat.le_of_ble_eq_true rfl, Nat.le_of_ble_eq_true rfl⟩ ⟨Nat.zero_le _, Nat.zero_le _⟩ hl.1 (Nat.le_of_ble_eq_true rfl) rfl dX9_pair_32 (fun H locs Z => ?_)
  refine lv_if_eq (tgt := 50) hx hb dX9_pair_35 (by decide) (fun c3 => ?_) (fun c3 => ?_)
  · have h := dw_ifT c3 h
    refine lv_bipush (v := (-6 : Int32)) hx hb dX9_pair_50 (by decide) ?_
    obtain ⟨rfl, rfl⟩ := dw_s2 h
    exact dw_iret C0 Z hr hlk dX9_pair_52
  · have h := dw_ifF c3 h
    refine lv_aload_n hx hb dX9_pair_38 rfl (lv_at hl 0 rfl) ?_
    refine dw_g9_5 (t := 139) C0 Z dw_kc0 tw_fX9_36 rfl dX9_pair_39 ?_
    refine dw_g7_1 (t := 141) C0 Z dw_kc139 tw_fX9_280 rfl dX9_pair_42 ?_
    refine lv_iload_n hx hb dX9_pair_45 rfl (lv_at hl 1 rfl) ?_
    obtain ⟨g4, h⟩ := dw_gdS h
    refine dw_ald C0 Z dw_kc141 dw_lc141 g4 dX9_pair_46 ?_
    refine lv_goto (tgt := 52) hx hb dX9_pair_47 (by decide) ?_
    obtain ⟨rfl, rfl⟩ := dw_s2 h
    exact dw_iret C0 Z hr hlk dX9_pair_52
