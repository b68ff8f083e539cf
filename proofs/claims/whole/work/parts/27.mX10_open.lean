def fX10_open (μ : dw_M) (a1 : Int32) (a2 : Int32) : Option (Int32 × dw_M) :=
  if (fX10_isPipe μ a1) = 0 then (
  some ((-1 : Int32), μ))
  else (
  if (fX10_in a2 (0 : Int32) (3 : Int32)) = 0 then (
  some ((-1 : Int32), μ))
  else (
  dw_bd (fX10_pipeOf μ a1 (0 : Int32)) (fun r4 =>
  if r4 = (3 : Int32) then (
  dw_bd (fX10_setPipe μ a1 (7 : Int32) ((100 : Int32) + a2)) (fun μ7 =>
  some ((1 : Int32), μ7)))
  else (
  some ((-3 : Int32), μ)))))
set_option maxHeartbeats 4000000 in
set_option maxRecDepth 100000 in
theorem kX10_open (l : Launch) (Γ : dw_G) (hj : dw_inj Γ) (μ : dw_M) (a1 : Int32) (a2 : Int32) {r : Int32} {ν : dw_M} (h : fX10_open μ a1 a2 = some (r, ν)) : Met l yX10_open (dw_ws yX10_open cX10_open 3 (some .int)) (dw_rm 2 43) (dw_P Γ ([.ref (dw_ad Γ 142), .int a1, .int a2] : List Value) μ) (dw_Qi Γ r ν) 0 0 (dw_A Γ) := by
  refine dw_met (own := RX10) rfl rfl (Nat.le_of_ble_eq_true rfl) hj ?_
  intro p e s m below meth c C0 hr hlk Z ls hl
  have hx := C0.1
  have hb := C0.2.1
  have hl : lv_has ls 3 [(0, .ref (dw_ad Γ 142)), (1, .int a1), (2, .int a2)] := hl
  suffices key : ∀ (H : Heap) (locs : List Loc), dw_Z Γ (dw_A Γ) s.heap μ H locs → W p l e (dw_rm 2 43) s m ([.ref (dw_ad Γ 142), .int a1, .int a2] : List Value).toArray below meth c H locs 0 0 (MQ below (dw_Qi Γ r ν) ([.ref (dw_ad Γ 142), .int a1, .int a2] : List Value).toArray s 0 0 (dw_A Γ)) (F0 m 0 ls []) from key _ _ Z
  clear Z
  intro H locs Z
  unfold fX10_open at h
  refine lv_aload_n hx hb dX10_open_0 rfl (lv_at hl 0 rfl) ?_
  refine lv_iload_n hx hb dX10_open_1 rfl (lv_at hl 1 rfl) ?_
  refine dw_cVi C0 Z dw_hA (dw_lt dw_kc142 (by decide)) (dw_cz10 dw_kc142) rfl (As := [.int a1]) (rest := []) (kX10_isPipe l Γ hj μ a1 rfl) (dw_gV tw_lX10_62 tw_vX10_isPipe tw_eX10_isPipe tw_iX10 tw_kX10_isPipe) dw_hX10_isPipe ⟨Nat.le_of_ble_eq_true rfl, Nat.le_of_ble_eq_true rfl⟩ ⟨Nat.zero_le _, Nat.zero_le _⟩ hl.1 (Nat.le_of_ble_eq_true rfl) rfl dX10_open_2 (fun H locs Z => ?_)
  refine lv_if_eq (tgt := 17) hx hb dX10_open_5 (by decide) (fun c1 => ?_) (fun c1 => ?_)
  · have h := dw_ifT c1 h
    refine lv_iconst (v := (-1 : Int32)) hx hb dX10_open_17 (by decide) ?_
    obtain ⟨rfl, rfl⟩ := dw_s2 h
    exact dw_iret C0 Z hr hlk dX10_open_18
  · have h := dw_ifF c1 h
    refine lv_iload_n hx hb dX10_open_8 rfl (lv_at hl 2 rfl) ?_
    refine lv_iconst (v := (0 : Int32)) hx hb dX10_open_9 (by decide) ?_
    refine lv_iconst (v := (3 : Int32)) hx hb dX10_open_10 (by decide) ?_
    refine dw_cSi C0 Z dw_hA (As := [.int a2, .int (0 : Int32), .int (3 : Int32)]) (rest := []) (kX10_in l Γ hj μ a2 (0 : Int32) (3 : Int32) rfl) (dw_gS tw_lX10_29 tw_sX10_in tw_iX10 tw_kX10_in) dw_hX10_in ⟨Nat.le_of_ble_eq_true rfl, Nat.le_of_ble_eq_true rfl⟩ ⟨Nat.zero_le _, Nat.zero_le _⟩ hl.1 (Nat.le_of_ble_eq_true rfl) rfl dX10_open_11 (fun H locs Z => ?_)
    refine lv_if_ne (tgt := 19) hx hb dX10_open_14 (by decide) (fun c2 => ?_) (fun c2 => ?_)
    · have h := dw_ifF c2 h
      refine lv_aload_n hx hb dX10_open_19 rfl (lv_at hl 0 rfl) ?_
      refine lv_iload_n hx hb dX10_open_20 rfl (lv_at hl 1 rfl) ?_
      refine lv_iconst (v := (0 : Int32)) hx hb dX10_open_21 (by decide) ?_
      obtain ⟨r4, hc3, h⟩ := dw_bdS h
      refine dw_cVi C0 Z dw_hA (dw_lt dw_kc142 (by decide)) (dw_cz10 dw_kc142) rfl (As := [.int a1, .int (0 : Int32)]) (rest := []) (kX10_pipeOf l Γ hj μ a1 (0 : Int32) hc3) (dw_gV tw_lX10_55 tw_vX10_pipeOf tw_eX10_pipeOf tw_iX10 tw_kX10_pipeOf) dw_hX10_pipeOf ⟨Nat.le_of_ble_eq_true rfl, Nat.le_of_ble_eq_true rfl⟩ ⟨Nat.zero_le _, Nat.zero_le _⟩ hl.1 (Nat.le_of_ble_eq_true rfl) rfl dX10_open_22 (fun H locs Z => ?_)
      refine lv_iconst (v := (3 : Int32)) hx hb dX10_open_25 (by decide) ?_
      refine lv_icmp_eq (tgt := 32) hx hb dX10_open_26 (by decide) (fun c5 => ?_) (fun c5 => ?_)
      · have h := dw_ifT c5 h
        refine lv_aload_n hx hb dX10_open_32 rfl (lv_at hl 0 rfl) ?_
        refine lv_iload_n hx hb dX10_open_33 rfl (lv_at hl 1 rfl) ?_
        refine lv_bipush (v := (7 : Int32)) hx hb dX10_open_34 (by decide) ?_
        refine lv_bipush (v := (100 : Int32)) hx hb dX10_open_36 (by decide) ?_
        refine lv_iload_n hx hb dX10_open_38 rfl (lv_at hl 2 rfl) ?_
        refine lv_iadd hx hb dX10_open_39 ?_
        obtain ⟨μ7, hc6, h⟩ := dw_bdS h
        refine dw_cVv C0 Z dw_hA (dw_lt dw_kc142 (by decide)) (dw_cz10 dw_kc142) rfl (As := [.int a1, .int (7 : Int32), .int ((100 : Int32) + a2)]) (rest := []) (kX10_setPipe l Γ hj μ a1 (7 : Int32) ((100 : Int32) + a2) hc6) (dw_gV tw_lX10_51 tw_vX10_setPipe tw_eX10_setPipe tw_iX10 tw_kX10_setPipe) dw_hX10_setPipe ⟨Nat.le_of_ble_eq_true rfl, Nat.le_of_ble_eq_true rfl⟩ ⟨Nat.zero_le _, Nat.zero_le _⟩ hl.1 (Nat.le_of_ble_eq_true rfl) rfl dX10_open_40 (fun H locs Z => ?_)
        refine lv_iconst (v := (1 : Int32)) hx hb dX10_open_43 (by decide) ?_
        obtain ⟨rfl, rfl⟩ := dw_s2 h
        exact dw_iret C0 Z hr hlk dX10_open_44
      · have h := dw_ifF c5 h
        refine lv_bipush (v := (-3 : Int32)) hx hb dX10_open_29 (by decide) ?_
        obtain ⟨rfl, rfl⟩ := dw_s2 h
        exact dw_iret C0 Z hr hlk dX10_open_31
    · have h := dw_ifT c2 h
      refine lv_iconst (v := (-1 : Int32)) hx hb dX10_open_17 (by decide) ?_
      obtain ⟨rfl, rfl⟩ := dw_s2 h
      exact dw_iret C0 Z hr hlk dX10_open_18

def fX10_part (μ : dw_M) (a1 : Int32) : Option (Int32 × dw_M) :=
  if (fX10_isPipe μ a1) = 0 then (
  some ((-1 : Int32), μ))
  else (
  dw_bd (fX10_pipeOf μ a1 (7 : Int32)) (fun r3 =>
  if r3 = (-1 : Int32) then (
  dw_bd (fX10_setPipe μ a1 (7 : Int32) (-1 : Int32)) (fun μ8 =>
  some ((0 : Int32), μ8)))
  else (
  dw_bd (fX10_setPipe μ a1 (7 : Int32) (-1 : Int32)) (fun μ6 =>
  some ((1 : Int32), μ6)))))
set_option maxHeartbeats 4000000 in
set_option maxRecDepth 100000 in
theorem kX10_part (l : Launch) (Γ : dw_G) (hj : dw_inj Γ) (μ : dw_M) (a1 : Int32) {r : Int32} {ν : dw_M} (h : fX10_part μ a1 = some (r, ν)) : Met l yX10_part (dw_ws yX10_part cX10_part 3 (some .int)) (dw_rm 2 43) (dw_P Γ ([.ref (dw_ad Γ 142), .int a1] : List Value) μ) (dw_Qi Γ r ν) 0 0 (dw_A Γ) := by
  refine dw_met (own := RX10) rfl rfl (Nat.le_of_ble_eq_true rfl) hj ?_
  intro p e s m below meth c C0 hr hlk Z ls hl
  have hx := C0.1
  have hb := C0.2.1
  have hl : lv_has ls 3 [(0, .ref (dw_ad Γ 142)), (1, .int a1)] := hl
  suffices key : ∀ (H : Heap) (locs : List Loc), dw_Z Γ (dw_A Γ) s.heap μ H locs → W p l e (dw_rm 2 43) s m ([.ref (dw_ad Γ 142), .int a1] : List Value).toArray below meth c H locs 0 0 (MQ below (dw_Qi Γ r ν) ([.ref (dw_ad Γ 142), .int a1] : List Value).toArray s 0 0 (dw_A Γ)) (F0 m 0 ls []) from key _ _ Z
  clear Z
  intro H locs Z
  unfold fX10_part at h
  refine lv_aload_n hx hb dX10_part_0 rfl (lv_at hl 0 rfl) ?_
  refine lv_iload_n hx hb dX10_part_1 rfl (lv_at hl 1 rfl) ?_
  refine dw_cVi C0 Z dw_hA (dw_lt dw_kc142 (by decide)) (dw_cz10 dw_kc142) rfl (As := [.int a1]) (rest := []) (kX10_isPipe l Γ hj μ a1 rfl) (dw_gV tw_lX10_62 tw_vX10_isPipe tw_eX10_isPipe tw_iX10 tw_kX10_isPipe) dw_hX10_isPipe ⟨Nat.le_of_ble_eq_true rfl, Nat.le_of_ble_eq_true rfl⟩ ⟨Nat.zero_le _, Nat.zero_le _⟩ hl.1 (Nat.le_of_ble_eq_true rfl) rfl dX10_part_2 (fun H locs Z => ?_)
  refine lv_if_ne (tgt := 10) hx hb dX10_part_5 (by decide) (fun c1 => ?_) (fun c1 => ?_)
  · have h := dw_ifF c1 h
    refine lv_aload_n hx hb dX10_part_10 rfl (lv_at hl 0 rfl) ?_
    refine lv_iload_n hx hb dX10_part_11 rfl (lv_at hl 1 rfl) ?_
    refine lv_bipush (v := (7 : Int32)) hx hb dX10_part_12 (by decide) ?_
    obtain ⟨r3, hc2, h⟩ := dw_bdS h
    refine dw_cVi C0 Z dw_hA (dw_lt dw_kc142 (by decide)) (dw_cz10 dw_kc142) rfl (As := [.int a1, .int (7 : Int32)]) (rest := []) (kX10_pipeOf l Γ hj μ a1 (7 : Int32) hc2) (dw_gV tw_lX10_55 tw_vX10_pipeOf tw_eX10_pipeOf tw_iX10 tw_kX10_pipeOf) dw_hX10_pipeOf ⟨Nat.le_of_ble_eq_true rfl, Nat.le_of_ble_eq_true rfl⟩ ⟨Nat.zero_le _, Nat.zero_le _⟩ hl.1 (Nat.le_of_ble_eq_true rfl) rfl dX10_part_14 (fun H locs Z => ?_)
    refine lv_iconst (v := (-1 : Int32)) hx hb dX10_part_17 (by decide) ?_
    refine lv_icmp_ne (tgt := 25) hx hb dX10_part_18 (by decide) (fun c4 => ?_) (fun c4 => ?_)
    · have h := dw_ifF c4 h
      refine lv_iconst (v := (1 : Int32)) hx hb dX10_part_25 (by decide) ?_
      refine lv_istore_n (lv' := [(2, .int (1 : Int32)), (0, .ref (dw_ad Γ 142)), (1, .int a1)]) hx hb dX10_part_26 rfl hl (by decide) rfl (fun ls hl => ?_)
      refine lv_aload_n hx hb dX10_part_27 rfl (lv_at hl 1 rfl) ?_
      refine lv_iload_n hx hb dX10_part_28 rfl (lv_at hl 2 rfl) ?_
      refine lv_bipush (v := (7 : Int32)) hx hb dX10_part_29 (by decide) ?_
      refine lv_iconst (v := (-1 : Int32)) hx hb dX10_part_31 (by decide) ?_
      obtain ⟨μ6, hc5, h⟩ := dw_bdS h
      refine dw_cVv C0 Z dw_hA (dw_lt dw_kc142 (by decide)) (dw_cz10 dw_kc142) rfl (As := [.int a1, .int (7 : Int32), .int (-1 : Int32)]) (rest := []) (kX10_setPipe l Γ hj μ a1 (7 : Int32) (-1 : Int32) hc5) (dw_gV tw_lX10_51 tw_vX10_setPipe tw_eX10_setPipe tw_iX10 tw_kX10_setPipe) dw_hX10_setPipe ⟨Nat.le_of_ble_eq_true rfl, Nat.le_of_ble_eq_true rfl⟩ ⟨Nat.zero_le _, Nat.zero_le _⟩ hl.1 (Nat.le_of_ble_eq_true rfl) rfl dX10_part_32 (fun H locs Z => ?_)
      refine lv_iload_n hx hb dX10_part_35 rfl (lv_at hl 0 rfl) ?_
      obtain ⟨rfl, rfl⟩ := dw_s2 h
      exact dw_iret C0 Z hr hlk dX10_part_36
    · have h := dw_ifT c4 h
      refine lv_iconst (v := (0 : Int32)) hx hb dX10_part_21 (by decide) ?_
      refine lv_goto (tgt := 26) hx hb dX10_part_22 (by decide) ?_
      refine lv_istore_n (lv' := [(2, .int (0 : Int32)), (0, .ref (dw_ad Γ 142)), (1, .int a1)]) hx hb dX10_part_26 rfl hl (by decide) rfl (fun ls hl => ?_)
      refine lv_aload_n hx hb dX10_part_27 rfl (lv_at hl 1 rfl) ?_
      refine lv_iload_n hx hb dX10_part_28 rfl (lv_at hl 2 rfl) ?_
      refine lv_bipush (v := (7 : Int32)) hx hb dX10_part_29 (by decide) ?_
      refine lv_iconst (v := (-1 : Int32)) hx hb dX10_part_31 (by decide) ?_
      obtain ⟨μ8, hc7, h⟩ := dw_bdS h
      refine dw_cVv C0 Z dw_hA (dw_lt dw_kc142 (by decide)) (dw_cz10 dw_kc142) rfl (As := [.int a1, .int (7 : Int32), .int (-1 : Int32)]) (rest := []) (kX10_setPipe l Γ hj μ a1 (7 : Int32) (-1 : Int32) hc7) (dw_gV tw_lX10_51 tw_vX10_setPipe tw_eX10_setPipe tw_iX10 tw_kX10_setPipe) dw_hX10_setPipe ⟨Nat.le_of_ble_eq_true rfl, Nat.le_of_ble_eq_true rfl⟩ ⟨Nat.zero_le _, Nat.zero_le _⟩ hl.1 (Nat.le_of_ble_eq_true rfl) rfl dX10_part_32 (fun H locs Z => ?_)
      refine lv_iload_n hx hb dX10_part_35 rfl (lv_at hl 0 rfl) ?_
      obtain ⟨rfl, rfl⟩ := dw_s2 h
      exact dw_iret C0 Z hr hlk dX10_part_36
  · have h := dw_ifT c1 h
    refine lv_iconst (v := (-1 : Int32)) hx hb dX10_part_8 (by decide) ?_
    obtain ⟨rfl, rfl⟩ := dw_s2 h
    exact dw_iret C0 Z hr hlk dX10_part_9

def fX10_block (μ : dw_M) (a1 : Int32) (a2 : Int32) : Option (Int32 × dw_M) :=
  if (fX10_isPipe μ a1) = 0 then (
  some ((-1 : Int32), μ))
  else (
  dw_bd (fX10_pipeOf μ a1 (8 : Int32)) (fun r3 =>
  dw_jm (fun (x4 : Int32) =>
  dw_jm (fun (x5 : Int32) =>
  if a2 = 0 then (
  dw_bd (fX10_setPipe μ a1 (8 : Int32) (0 : Int32)) (fun μ8 =>
  some (x5, μ8)))
  else (
  dw_bd (fX10_setPipe μ a1 (8 : Int32) (1 : Int32)) (fun μ10 =>
  some (x5, μ10)))) (fun k35 =>
  if x4 = a2 then (
  k35 (0 : Int32))
  else (
  k35 (1 : Int32)))) (fun k26 =>
  if r3 = (1 : Int32) then (
  k26 (1 : Int32))
  else (
  k26 (0 : Int32)))))
set_option maxHeartbeats 4000000 in
set_option maxRecDepth 100000 in
theorem kX10_block (l : Launch) (Γ : dw_G) (hj : dw_inj Γ) (μ : dw_M) (a1 : Int32) (a2 : Int32) {r : Int32} {ν : dw_M} (h : fX10_block μ a1 a2 = some (r, ν)) : Met l yX10_block (dw_ws yX10_block cX10_block 4 (some .int)) (dw_rm 2 43) (dw_P Γ ([.ref (dw_ad Γ 142), .int a1, .int a2] : List Value) μ) (dw_Qi Γ r ν) 0 0 (dw_A Γ) := by
  refine dw_met (own := RX10) rfl rfl (Nat.le_of_ble_eq_true rfl) hj ?_
  intro p e s m below meth c C0 hr hlk Z ls hl
  have hx := C0.1
  have hb := C0.2.1
  have hl : lv_has ls 4 [(0, .ref (dw_ad Γ 142)), (1, .int a1), (2, .int a2)] := hl
  suffices key : ∀ (H : Heap) (locs : List Loc), dw_Z Γ (dw_A Γ) s.heap μ H locs → W p l e (dw_rm 2 43) s m ([.ref (dw_ad Γ 142), .int a1, .int a2] : List Value).toArray below meth c H locs 0 0 (MQ below (dw_Qi Γ r ν) ([.ref (dw_ad Γ 142), .int a1, .int a2] : List Value).toArray s 0 0 (dw_A Γ)) (F0 m 0 ls []) from key _ _ Z
  clear Z
  intro H locs Z
  unfold fX10_block at h
  refine lv_aload_n hx hb dX10_block_0 rfl (lv_at hl 0 rfl) ?_
  refine lv_iload_n hx hb dX10_block_1 rfl (lv_at hl 1 rfl) ?_
  refine dw_cVi C0 Z dw_hA (dw_lt dw_kc142 (by decide)) (dw_cz10 dw_kc142) rfl (As := [.int a1]) (rest := []) (kX10_isPipe l Γ hj μ a1 rfl) (dw_gV tw_lX10_62 tw_vX10_isPipe tw_eX10_isPipe tw_iX10 tw_kX10_isPipe) dw_hX10_isPipe ⟨Nat.le_of_ble_eq_true rfl, Nat.le_of_ble_eq_true rfl⟩ ⟨Nat.zero_le _, Nat.zero_le _⟩ hl.1 (Nat.le_of_ble_eq_true rfl) rfl dX10_block_2 (fun H locs Z => ?_)
  refine lv_if_ne (tgt := 10) hx hb dX10_block_5 (by decide) (fun c1 => ?_) (fun c1 => ?_)
  · have h := dw_ifF c1 h
    refine lv_aload_n hx hb dX10_block_10 rfl (lv_at hl 0 rfl) ?_
    refine lv_iload_n hx hb dX10_block_11 rfl (lv_at hl 1 rfl) ?_
    refine lv_bipush (v := (8 : Int32)) hx hb dX10_block_12 (by decide) ?_
    obtain ⟨r3, hc2, h⟩ := dw_bdS h
    refine dw_cVi C0 Z dw_hA (dw_lt dw_kc142 (by decide)) (dw_cz10 dw_kc142) rfl (As := [.int a1, .int (8 : Int32)]) (rest := []) (kX10_pipeOf l Γ hj μ a1 (8 : Int32) hc2) (dw_gV tw_lX10_55 tw_vX10_pipeOf tw_eX10_pipeOf tw_iX10 tw_kX10_pipeOf) dw_hX10_pipeOf ⟨Nat.le_of_ble_eq_true rfl, Nat.le_of_ble_eq_true rfl⟩ ⟨Nat.zero_le _, Nat.zero_le _⟩ hl.1 (Nat.le_of_ble_eq_true rfl) rfl dX10_block_14 (fun H locs Z => ?_)
    refine lv_iconst (v := (1 : Int32)) hx hb dX10_block_17 (by decide) ?_
    obtain ⟨k26, ek26, h⟩ := dw_jnS h
    have J26 : ∀ (x4 : Int32) (H : Heap) (locs : List Loc) (ls : Array Slot), dw_Z Γ (dw_A Γ) s.heap μ H locs → lv_has ls 4 [(0, .ref (dw_ad Γ 142)), (1, .int a1), (2, .int a2)] → k26 x4 = some (r, ν) → W p l e (dw_rm 2 43) s m ([.ref (dw_ad Γ 142), .int a1, .int a2] : List Value).toArray below meth c H locs 0 0 (MQ below (dw_Qi Γ r ν) ([.ref (dw_ad Γ 142), .int a1, .int a2] : List Value).toArray s 0 0 (dw_A Γ)) (F0 m 26 ls [.int x4]) := by
      clear h
      intro x4 H locs ls Z hl h
      rw [ek26] at h
      dsimp only at h
      refine lv_iload_n hx hb dX10_block_26 rfl (lv_at hl 2 rfl) ?_
      obtain ⟨k35, ek35, h⟩ := dw_jnS h
      have J35 : ∀ (x5 : Int32) (H : Heap) (locs : List Loc) (ls : Array Slot), dw_Z Γ (dw_A Γ) s.heap μ H locs → lv_has ls 4 [(0, .ref (dw_ad Γ 142)), (1, .int a1), (2, .int a2)] → k35 x5 = some (r, ν) → W p l e (dw_rm 2 43) s m ([.ref (dw_ad Γ 142), .int a1, .int a2] : List Value).toArray below meth c H locs 0 0 (MQ below (dw_Qi Γ r ν) ([.ref (dw_ad Γ 142), .int a1, .int a2] : List Value).toArray s 0 0 (dw_A Γ)) (F0 m 35 ls [.int x5]) := by
        clear h
        intro x5 H locs ls Z hl h
        rw [ek35] at h
        dsimp only at h
        refine lv_istore_n (lv' := [(3, .int x5), (0, .ref (dw_ad Γ 142)), (1, .int a1), (2, .int a2)]) hx hb dX10_block_35 rfl hl (by decide) rfl (fun ls hl => ?_)
        refine lv_aload_n hx hb dX10_block_36 rfl (lv_at hl 1 rfl) ?_
        refine lv_iload_n hx hb dX10_block_37 rfl (lv_at hl 2 rfl) ?_
        refine lv_bipush (v := (8 : Int32)) hx hb dX10_block_38 (by decide) ?_
        refine lv_iload_n hx hb dX10_block_40 rfl (lv_at hl 3 rfl) ?_
        refine lv_if_eq (tgt := 48) hx hb dX10_block_41 (by decide) (fun c6 => ?_) (fun c6 => ?_)
        · have h := dw_ifT c6 h
          refine lv_iconst (v := (0 : Int32)) hx hb dX10_block_48 (by decide) ?_
          obtain ⟨μ8, hc7, h⟩ := dw_bdS h
          refine dw_cVv C0 Z dw_hA (dw_lt dw_kc142 (by decide)) (dw_cz10 dw_kc142) rfl (As := [.int a1, .int (8 : Int32), .int (0 : Int32)]) (rest := []) (kX10_setPipe l Γ hj μ a1 (8 : Int32) (0 : Int32) hc7) (dw_gV tw_lX10_51 tw_vX10_setPipe tw_eX10_setPipe tw_iX10 tw_kX10_setPipe) dw_hX10_setPipe ⟨Nat.le_of_ble_eq_true rfl, Nat.le_of_ble_eq_true rfl⟩ ⟨Nat.zero_le _, Nat.zero_le _⟩ hl.1 (Nat.le_of_ble_eq_true rfl) rfl dX10_block_49 (fun H locs Z => ?_)
          refine lv_iload_n hx hb dX10_block_52 rfl (lv_at hl 0 rfl) ?_
          obtain ⟨rfl, rfl⟩ := dw_s2 h
          exact dw_iret C0 Z hr hlk dX10_block_53
        · have h := dw_ifF c6 h
          refine lv_iconst (v := (1 : Int32)) hx hb dX10_block_44 (by decide) ?_
          refine lv_goto (tgt := 49) hx hb dX10_block_45 (by decide) ?_
          obtain ⟨μ10, hc9, h⟩ := dw_bdS h
          refine dw_cVv C0 Z dw_hA (dw_lt dw_kc142 (by decide)) (dw_cz10 dw_kc142) rfl (As := [.int a1, .int (8 : Int32), .int (1 : Int32)]) (rest := []) (kX10_setPipe l Γ hj μ a1 (8 : Int32) (1 : Int32) hc9) (dw_gV tw_lX10_51 tw_vX10_setPipe tw_eX10_setPipe tw_iX10 tw_kX10_setPipe) dw_hX10_setPipe ⟨Nat.le_of_ble_eq_true rfl, Nat.le_of_ble_eq_true rfl⟩ ⟨Nat.zero_le _, Nat.zero_le _⟩ hl.1 (Nat.le_of_ble_eq_true rfl) rfl dX10_block_49 (fun H locs Z => ?_)
          refine lv_iload_n hx hb dX10_block_52 rfl (lv_at hl 0 rfl) ?_
          obtain ⟨rfl, rfl⟩ := dw_s2 h
          exact dw_iret C0 Z hr hlk dX10_block_53
      refine lv_icmp_ne (tgt := 34) hx hb dX10_block_27 (by decide) (fun c11 => ?_) (fun c11 => ?_)
      · have h := dw_ifF c11 h
        refine lv_iconst (v := (1 : Int32)) hx hb dX10_block_34 (by decide) ?_
        exact J35 (1 : Int32) H locs ls Z (lv_sub hl [0, 1, 2] rfl) h
      · have h := dw_ifT c11 h
        refine lv_iconst (v := (0 : Int32)) hx hb dX10_block_30 (by decide) ?_
        refine lv_goto (tgt := 35) hx hb dX10_block_31 (by decide) ?_
        exact J35 (0 : Int32) H locs ls Z (lv_sub hl [0, 1, 2] rfl) h
    refine lv_icmp_ne (tgt := 25) hx hb dX10_block_18 (by decide) (fun c12 => ?_) (fun c12 => ?_)
    · have h := dw_ifF c12 h
      refine lv_iconst (v := (0 : Int32)) hx hb dX10_block_25 (by decide) ?_
      exact J26 (0 : Int32) H locs ls Z (lv_sub hl [0, 1, 2] rfl) h
    · have h := dw_ifT c12 h
      refine lv_iconst (v := (1 : Int32)) hx hb dX10_block_21 (by decide) ?_
      refine lv_goto (tgt := 26) hx hb dX10_block_22 (by decide) ?_
      exact J26 (1 : Int32) H locs ls Z (lv_sub hl [0, 1, 2] rfl) h
  · have h := dw_ifT c1 h
    refine lv_iconst (v := (-1 : Int32)) hx hb dX10_block_8 (by decide) ?_
    obtain ⟨rfl, rfl⟩ := dw_s2 h
    exact dw_iret C0 Z hr hlk dX10_block_9

def fX10_bears (μ : dw_M) (a1 : Int32) : Option (Int32) :=
  dw_bd (fX10_pipeOf μ a1 (5 : Int32)) (fun r2 =>
  dw_bd (fX10_pipeOf μ a1 (5 : Int32)) (fun r4 =>
  dw_bd (fX10_pipeOf μ a1 (4 : Int32)) (fun r6 =>
  some ((r2 * r4) * (r6 + (5 : Int32))))))
set_option maxHeartbeats 4000000 in
set_option maxRecDepth 100000 in
theorem kX10_bears (l : Launch) (Γ : dw_G) (hj : dw_inj Γ) (μ : dw_M) (a1 : Int32) {r : Int32} (h : fX10_bears μ a1 = some r) : Met l yX10_bears (dw_ws yX10_bears cX10_bears 2 (some .int)) (dw_rm 1 22) (dw_P Γ ([.ref (dw_ad Γ 142), .int a1] : List Value) μ) (dw_Qi Γ r μ) 0 0 (dw_A Γ) := by
  refine dw_met (own := RX10) rfl rfl (Nat.le_of_ble_eq_true rfl) hj ?_
  intro p e s m below meth c C0 hr hlk Z ls hl
  have hx := C0.1
  have hb := C0.2.1
  have hl : lv_has ls 2 [(0, .ref (dw_ad Γ 142)), (1, .int a1)] := hl
  suffices key : ∀ (H : Heap) (locs : List Loc), dw_Z Γ (dw_A Γ) s.heap μ H locs → W p l e (dw_rm 1 22) s m ([.ref (dw_ad Γ 142), .int a1] : List Value).toArray below meth c H locs 0 0 (MQ below (dw_Qi Γ r μ) ([.ref (dw_ad Γ 142), .int a1] : List Value).toArray s 0 0 (dw_A Γ)) (F0 m 0 ls []) from key _ _ Z
  clear Z
  intro H locs Z
  unfold fX10_bears at h
  refine lv_aload_n hx hb dX10_bears_0 rfl (lv_at hl 0 rfl) ?_
  refine lv_iload_n hx hb dX10_bears_1 rfl (lv_at hl 1 rfl) ?_
  refine lv_iconst (v := (5 : Int32)) hx hb dX10_bears_2 (by decide) ?_
  obtain ⟨r2, hc1, h⟩ := dw_bdS h
  refine dw_cVi C0 Z dw_hA (dw_lt dw_kc142 (by decide)) (dw_cz10 dw_kc142) rfl (As := [.int a1, .int (5 : Int32)]) (rest := []) (kX10_pipeOf l Γ hj μ a1 (5 : Int32) hc1) (dw_gV tw_lX10_55 tw_vX10_pipeOf tw_eX10_pipeOf tw_iX10 tw_kX10_pipeOf) dw_hX10_pipeOf ⟨Nat.le_of_ble_eq_true rfl, Nat.le_of_ble_eq_true rfl⟩ ⟨Nat.zero_le _, Nat.zero_le _⟩ hl.1 (Nat.le_of_ble_eq_true rfl) rfl dX10_bears_3 (fun H locs Z => ?_)
  refine lv_aload_n hx hb dX10_bears_6 rfl (lv_at hl 0 rfl) ?_
  refine lv_iload_n hx hb dX10_bears_7 rfl (lv_at hl 1 rfl) ?_
  refine lv_iconst (v := (5 : Int32)) hx hb dX10_bears_8 (by decide) ?_
  obtain ⟨r4, hc3, h⟩ := dw_bdS h
  refine dw_cVi C0 Z dw_hA (dw_lt dw_kc142 (by decide)) (dw_cz10 dw_kc142) rfl (As := [.int a1, .int (5 : Int32)]) (rest := [.int r2]) (kX10_pipeOf l Γ hj μ a1 (5 : Int32) hc3) (dw_gV tw_lX10_55 tw_vX10_pipeOf tw_eX10_pipeOf tw_iX10 tw_kX10_pipeOf) dw_hX10_pipeOf ⟨Nat.le_of_ble_eq_true rfl, Nat.le_of_ble_eq_true rfl⟩ ⟨Nat.zero_le _, Nat.zero_le _⟩ hl.1 (Nat.le_of_ble_eq_true rfl) rfl dX10_bears_9 (fun H locs Z => ?_)
  refine lv_imul hx hb dX10_bears_12 ?_
  refine lv_aload_n hx hb dX10_bears_13 rfl (lv_at hl 0 rfl) ?_
  refine lv_iload_n hx hb dX10_bears_14 rfl (lv_at hl 1 rfl) ?_
  refine lv_iconst (v := (4 : Int32)) hx hb dX10_bears_15 (by decide) ?_
  obtain ⟨r6, hc5, h⟩ := dw_bdS h
  refine dw_cVi C0 Z dw_hA (dw_lt dw_kc142 (by decide)) (dw_cz10 dw_kc142) rfl (As := [.int a1, .int (4 : Int32)]) (rest := [.int (r2 * r4)]) (kX10_pipeOf l Γ hj μ a1 (4 : Int32) hc5) (dw_gV tw_lX10_55 tw_vX10_pipeOf tw_eX10_pipeOf tw_iX10 tw_kX10_pipeOf) dw_hX10_pipeOf ⟨Nat.le_of_ble_eq_true rfl, Nat.le_of_ble_eq_true rfl⟩ ⟨Nat.zero_le _, Nat.zero_le _⟩ hl.1 (Nat.le_of_ble_eq_true rfl) rfl dX10_bears_16 (fun H locs Z => ?_)
  refine lv_iconst (v := (5 : Int32)) hx hb dX10_bears_19 (by decide) ?_
  refine lv_iadd hx hb dX10_bears_20 ?_
  refine lv_imul hx hb dX10_bears_21 ?_
  obtain rfl := dw_s1 h
  exact dw_iret C0 Z hr hlk dX10_bears_22

def fX10_holds (μ : dw_M) (a1 : Int32) : Option (Int32) :=
  dw_bd (fX10_pipeOf μ a1 (5 : Int32)) (fun r2 =>
  dw_bd (fX10_pipeOf μ a1 (11 : Int32)) (fun r4 =>
  some (((40 : Int32) * r2) * r4)))
set_option maxHeartbeats 4000000 in
set_option maxRecDepth 100000 in
theorem kX10_holds (l : Launch) (Γ : dw_G) (hj : dw_inj Γ) (μ : dw_M) (a1 : Int32) {r : Int32} (h : fX10_holds μ a1 = some r) : Met l yX10_holds (dw_ws yX10_holds cX10_holds 2 (some .int)) (dw_rm 1 22) (dw_P Γ ([.ref (dw_ad Γ 142), .int a1] : List Value) μ) (dw_Qi Γ r μ) 0 0 (dw_A Γ) := by
  refine dw_met (own := RX10) rfl rfl (Nat.le_of_ble_eq_true rfl) hj ?_
  intro p e s m below meth c C0 hr hlk Z ls hl
  have hx := C0.1
  have hb := C0.2.1
  have hl : lv_has ls 2 [(0, .ref (dw_ad Γ 142)), (1, .int a1)] := hl
  suffices key : ∀ (H : Heap) (locs : List Loc), dw_Z Γ (dw_A Γ) s.heap μ H locs → W p l e (dw_rm 1 22) s m ([.ref (dw_ad Γ 142), .int a1] : List Value).toArray below meth c H locs 0 0 (MQ below (dw_Qi Γ r μ) ([.ref (dw_ad Γ 142), .int a1] : List Value).toArray s 0 0 (dw_A Γ)) (F0 m 0 ls []) from key _ _ Z
  clear Z
  intro H locs Z
  unfold fX10_holds at h
  refine lv_bipush (v := (40 : Int32)) hx hb dX10_holds_0 (by decide) ?_
  refine lv_aload_n hx hb dX10_holds_2 rfl (lv_at hl 0 rfl) ?_
  refine lv_iload_n hx hb dX10_holds_3 rfl (lv_at hl 1 rfl) ?_
  refine lv_iconst (v := (5 : Int32)) hx hb dX10_holds_4 (by decide) ?_
  obtain ⟨r2, hc1, h⟩ := dw_bdS h
  refine dw_cVi C0 Z dw_hA (dw_lt dw_kc142 (by decide)) (dw_cz10 dw_kc142) rfl (As := [.int a1, .int (5 : Int32)]) (rest := [.int (40 : Int32)]) (kX10_pipeOf l Γ hj μ a1 (5 : Int32) hc1) (dw_gV tw_lX10_55 tw_vX10_pipeOf tw_eX10_pipeOf tw_iX10 tw_kX10_pipeOf) dw_hX10_pipeOf ⟨Nat.le_of_ble_eq_true rfl, Nat.le_of_ble_eq_true rfl⟩ ⟨Nat.zero_le _, Nat.zero_le _⟩ hl.1 (Nat.le_of_ble_eq_true rfl) rfl dX10_holds_5 (fun H locs Z => ?_)
  refine lv_imul hx hb dX10_holds_8 ?_
  refine lv_aload_n hx hb dX10_holds_9 rfl (lv_at hl 0 rfl) ?_
  refine lv_iload_n hx hb dX10_holds_10 rfl (lv_at hl 1 rfl) ?_
  refine lv_bipush (v := (11 : Int32)) hx hb dX10_holds_11 (by decide) ?_
  obtain ⟨r4, hc3, h⟩ := dw_bdS h
  refine dw_cVi C0 Z dw_hA (dw_lt dw_kc142 (by decide)) (dw_cz10 dw_kc142) rfl (As := [.int a1, .int (11 : Int32)]) (rest := [.int ((40 : Int32) * r2)]) (kX10_pipeOf l Γ hj μ a1 (11 : Int32) hc3) (dw_gV tw_lX10_55 tw_vX10_pipeOf tw_eX10_pipeOf tw_iX10 tw_kX10_pipeOf) dw_hX10_pipeOf ⟨Nat.le_of_ble_eq_true rfl, Nat.le_of_ble_eq_true rfl⟩ ⟨Nat.zero_le _, Nat.zero_le _⟩ hl.1 (Nat.le_of_ble_eq_true rfl) rfl dX10_holds_13 (fun H locs Z => ?_)
  refine lv_imul hx hb dX10_holds_16 ?_
  obtain rfl := dw_s1 h
  exact dw_iret C0 Z hr hlk dX10_holds_17

def sX10_peak_4 (μ : dw_M) (a1 : Int32) (x1 : Int32) (x2 : Int32) : Option ((Int32 × Int32) ⊕ ((Int32))) :=
  if (μ.1 143 (13 : Int32).toNatClampNeg) ≤ x2 then (
  some (.inr x1))
  else (
  dw_bd (fX10_pipeOf μ x2 (7 : Int32)) (fun r5 =>
  if r5 = a1 then (
  dw_bd (fX10_bears μ x2) (fun r10 =>
  dw_nm (x1 + r10) (fun x11 =>
  dw_nm (x2 + (1 : Int32)) (fun x12 =>
  some (.inl (x11, x12))))))
  else (
  dw_nm (x1 + (0 : Int32)) (fun x7 =>
  dw_nm (x2 + (1 : Int32)) (fun x8 =>
  some (.inl (x7, x8)))))))
def fX10_peak (μ : dw_M) (a1 : Int32) : Option (Int32) :=
  dw_bd (dw_wh (fun v => sX10_peak_4 μ a1 v.1 v.2) 1000 ((0 : Int32), (0 : Int32)))
    (fun x13 => dw_bd (fX10_bears μ a1) (fun r15 =>
  some (fX10_lesser x13 r15)))
set_option maxHeartbeats 4000000 in
set_option maxRecDepth 100000 in
theorem kX10_peak (l : Launch) (Γ : dw_G) (hj : dw_inj Γ) (μ : dw_M) (a1 : Int32) {r : Int32} (h : fX10_peak μ a1 = some r) : Met l yX10_peak (dw_ws yX10_peak cX10_peak 4 (some .int)) (dw_rm 2 43) (dw_P Γ ([.ref (dw_ad Γ 142), .int a1] : List Value) μ) (dw_Qi Γ r μ) 0 0 (dw_A Γ) := by
  refine dw_met (own := RX10) rfl rfl (Nat.le_of_ble_eq_true rfl) hj ?_
  intro p e s m below meth c C0 hr hlk Z ls hl
  have hx := C0.1
  have hb := C0.2.1
  have hl : lv_has ls 4 [(0, .ref (dw_ad Γ 142)), (1, .int a1)] := hl
  suffices key : ∀ (H : Heap) (locs : List Loc), dw_Z Γ (dw_A Γ) s.heap μ H locs → W p l e (dw_rm 2 43) s m ([.ref (dw_ad Γ 142), .int a1] : List Value).toArray below meth c H locs 0 0 (MQ below (dw_Qi Γ r μ) ([.ref (dw_ad Γ 142), .int a1] : List Value).toArray s 0 0 (dw_A Γ)) (F0 m 0 ls []) from key _ _ Z
  clear Z
  intro H locs Z
  unfold fX10_peak at h
  refine lv_iconst (v := (0 : Int32)) hx hb dX10_peak_0 (by decide) ?_
  refine lv_istore_n (lv' := [(2, .int (0 : Int32)), (0, .ref (dw_ad Γ 142)), (1, .int a1)]) hx hb dX10_peak_1 rfl hl (by decide) rfl (fun ls hl => ?_)
  refine lv_iconst (v := (0 : Int32)) hx hb dX10_peak_2 (by decide) ?_
  refine lv_istore_n (lv' := [(3, .int (0 : Int32)), (2, .int (0 : Int32)), (0, .ref (dw_ad Γ 142)), (1, .int a1)]) hx hb dX10_peak_3 rfl hl (by decide) rfl (fun ls hl => ?_)
  obtain ⟨kc4, ekc4, h⟩ := dw_bdK h
  have E4 : ∀ (x13 : Int32) (H : Heap) (locs : List Loc) (ls : Array Slot), dw_Z Γ (dw_A Γ) s.heap μ H locs → lv_has ls 4 [(0, .ref (dw_ad Γ 142)), (1, .int a1), (2, .int x13)] → kc4 x13 = some r → W p l e (dw_rm 2 43) s m ([.ref (dw_ad Γ 142), .int a1] : List Value).toArray below meth c H locs 0 0 (MQ below (dw_Qi Γ r μ) ([.ref (dw_ad Γ 142), .int a1] : List Value).toArray s 0 0 (dw_A Γ)) (F0 m 44 ls []) := by
    intro x13 H locs ls Z hl h
    rw [ekc4] at h
    dsimp only at h
    refine lv_iload_n hx hb dX10_peak_44 rfl (lv_at hl 2 rfl) ?_
    refine lv_aload_n hx hb dX10_peak_45 rfl (lv_at hl 0 rfl) ?_
    refine lv_iload_n hx hb dX10_peak_46 rfl (lv_at hl 1 rfl) ?_
    obtain ⟨r15, hc14, h⟩ := dw_bdS h
    refine dw_cVi C0 Z dw_hA (dw_lt dw_kc142 (by decide)) (dw_cz10 dw_kc142) rfl (As := [.int a1]) (rest := [.int x13]) (kX10_bears l Γ hj μ a1 hc14) (dw_gV tw_lX10_74 tw_vX10_bears tw_eX10_bears tw_iX10 tw_kX10_bears) dw_hX10_bears ⟨Nat.le_of_ble_eq_true rfl, Nat.le_of_ble_eq_true rfl⟩ ⟨Nat.zero_le _, Nat.zero_le _⟩ hl.1 (Nat.le_of_ble_eq_true rfl) rfl dX10_peak_47 (fun H locs Z => ?_)
    refine dw_cSi C0 Z dw_hA (As := [.int x13, .int r15]) (rest := []) (kX10_lesser l Γ hj μ x13 r15 rfl) (dw_gS tw_lX10_77 tw_sX10_lesser tw_iX10 tw_kX10_lesser) dw_hX10_lesser ⟨Nat.le_of_ble_eq_true rfl, Nat.le_of_ble_eq_true rfl⟩ ⟨Nat.zero_le _, Nat.zero_le _⟩ hl.1 (Nat.le_of_ble_eq_true rfl) rfl dX10_peak_50 (fun H locs Z => ?_)
    obtain rfl := dw_s1 h
    exact dw_iret C0 Z hr hlk dX10_peak_53
  have L4 : ∀ (n4 : Nat) (x1 : Int32) (x2 : Int32) (H : Heap) (locs : List Loc) (ls : Array Slot), dw_Z Γ (dw_A Γ) s.heap μ H locs → lv_has ls 4 [(0, .ref (dw_ad Γ 142)), (1, .int a1), (2, .int x1), (3, .int x2)] → dw_bd (dw_wh (fun v => sX10_peak_4 μ a1 v.1 v.2) n4 (x1, x2)) kc4 = some r → W p l e (dw_rm 2 43) s m ([.ref (dw_ad Γ 142), .int a1] : List Value).toArray below meth c H locs 0 0 (MQ below (dw_Qi Γ r μ) ([.ref (dw_ad Γ 142), .int a1] : List Value).toArray s 0 0 (dw_A Γ)) (F0 m 4 ls []) := by
    clear h
    intro n4
    induction n4 with
    | zero =>
      intro x1 x2 H locs ls Z hl h
      exact (dw_wh0 h).elim
    | succ n4 ih4 =>
      intro x1 x2 H locs ls Z hl h
      obtain ⟨q4, hs, hq4⟩ := dw_whB h
      have h : sX10_peak_4 μ a1 x1 x2 = some q4 := hs
      unfold sX10_peak_4 at h
      refine lv_iload_n hx hb dX10_peak_4 rfl (lv_at hl 3 rfl) ?_
      refine lv_aload_n hx hb dX10_peak_5 rfl (lv_at hl 0 rfl) ?_
      refine dw_g10_0 (t := 143) C0 Z dw_kc142 tw_fX10_7 rfl dX10_peak_6 ?_
      refine lv_bipush (v := (13 : Int32)) hx hb dX10_peak_9 (by decide) ?_
      refine dw_ald C0 Z dw_kc143 dw_lc143 (by decide) dX10_peak_11 ?_
      refine lv_icmp_ge (tgt := 44) hx hb dX10_peak_12 (by decide) (fun c3 => ?_) (fun c3 => ?_)
      · have h := dw_ifT c3 h
        obtain rfl := dw_s1 h
        exact E4 x1 H locs ls Z (lv_sub hl [0, 1, 2] rfl) hq4
      · have h := dw_ifF c3 h
        refine lv_iload_n hx hb dX10_peak_15 rfl (lv_at hl 2 rfl) ?_
        refine lv_aload_n hx hb dX10_peak_16 rfl (lv_at hl 0 rfl) ?_
        refine lv_iload_n hx hb dX10_peak_17 rfl (lv_at hl 3 rfl) ?_
        refine lv_bipush (v := (7 : Int32)) hx hb dX10_peak_18 (by decide) ?_
        obtain ⟨r5, hc4, h⟩ := dw_bdS h
        refine dw_cVi C0 Z dw_hA (dw_lt dw_kc142 (by decide)) (dw_cz10 dw_kc142) rfl (As := [.int x2, .int (7 : Int32)]) (rest := [.int x1]) (kX10_pipeOf l Γ hj μ x2 (7 : Int32) hc4) (dw_gV tw_lX10_55 tw_vX10_pipeOf tw_eX10_pipeOf tw_iX10 tw_kX10_pipeOf) dw_hX10_pipeOf ⟨Nat.le_of_ble_eq_true rfl, Nat.le_of_ble_eq_true rfl⟩ ⟨Nat.zero_le _, Nat.zero_le _⟩ hl.1 (Nat.le_of_ble_eq_true rfl) rfl dX10_peak_20 (fun H locs Z => ?_)
        refine lv_iload_n hx hb dX10_peak_23 rfl (lv_at hl 1 rfl) ?_
        refine lv_icmp_ne (tgt := 35) hx hb dX10_peak_24 (by decide) (fun c6 => ?_) (fun c6 => ?_)
        · have h := dw_ifF c6 h
          refine lv_iconst (v := (0 : Int32)) hx hb dX10_peak_35 (by decide) ?_
          refine lv_iadd hx hb dX10_peak_36 ?_
          refine lv_topi (fun x7 ex7 => ?_)
          have h := dw_nmS ex7 h
          refine lv_istore_n (lv' := [(2, .int x7), (0, .ref (dw_ad Γ 142)), (1, .int a1), (3, .int x2)]) hx hb dX10_peak_37 rfl hl (by decide) rfl (fun ls hl => ?_)
          obtain ⟨x8, ex8⟩ := dw_eg (x2 + (1 : Int32))
          have h := dw_nmS ex8 h
          refine lv_iinc (v := x8) (lv' := [(3, .int x8), (2, .int x7), (0, .ref (dw_ad Γ 142)), (1, .int a1)]) hx hb dX10_peak_38 hl (k := 3) rfl (by rw [ex8]; rfl) (by decide) rfl (fun ls hl => ?_)
          refine lv_goto (tgt := 4) hx hb dX10_peak_41 (by decide) ?_
          obtain rfl := dw_s1 h
          exact ih4 x7 x8 H locs ls Z (lv_sub hl [2, 3, 1, 0] rfl) hq4
        · have h := dw_ifT c6 h
          refine lv_aload_n hx hb dX10_peak_27 rfl (lv_at hl 0 rfl) ?_
          refine lv_iload_n hx hb dX10_peak_28 rfl (lv_at hl 3 rfl) ?_
          obtain ⟨r10, hc9, h⟩ := dw_bdS h
          refine dw_cVi C0 Z dw_hA (dw_lt dw_kc142 (by decide)) (dw_cz10 dw_kc142) rfl (As := [.int x2]) (rest := [.int x1]) (kX10_bears l Γ hj μ x2 hc9) (dw_gV tw_lX10_74 tw_vX10_bears tw_eX10_bears tw_iX10 tw_kX10_bears) dw_hX10_bears ⟨Nat.le_of_ble_eq_true rfl, Nat.le_of_ble_eq_true rfl⟩ ⟨Nat.zero_le _, Nat.zero_le _⟩ hl.1 (Nat.le_of_ble_eq_true rfl) rfl dX10_peak_29 (fun H locs Z => ?_)
          refine lv_goto (tgt := 36) hx hb dX10_peak_32 (by decide) ?_
          refine lv_iadd hx hb dX10_peak_36 ?_
          refine lv_topi (fun x11 ex11 => ?_)
          have h := dw_nmS ex11 h
          refine lv_istore_n (lv' := [(2, .int x11), (0, .ref (dw_ad Γ 142)), (1, .int a1), (3, .int x2)]) hx hb dX10_peak_37 rfl hl (by decide) rfl (fun ls hl => ?_)
          obtain ⟨x12, ex12⟩ := dw_eg (x2 + (1 : Int32))
          have h := dw_nmS ex12 h
          refine lv_iinc (v := x12) (lv' := [(3, .int x12), (2, .int x11), (0, .ref (dw_ad Γ 142)), (1, .int a1)]) hx hb dX10_peak_38 hl (k := 3) rfl (by rw [ex12]; rfl) (by decide) rfl (fun ls hl => ?_)
          refine lv_goto (tgt := 4) hx hb dX10_peak_41 (by decide) ?_
          obtain rfl := dw_s1 h
          exact ih4 x11 x12 H locs ls Z (lv_sub hl [2, 3, 1, 0] rfl) hq4
  exact L4 1000 (0 : Int32) (0 : Int32) H locs ls Z (lv_sub hl [2, 3, 1, 0] rfl) h

def fX10_of (μ : dw_M) (a1 : Int32) (a2 : Int32) : Option (Int32) :=
  if (fX10_isPipe μ a1) = 0 then (
  some (-1 : Int32))
  else (
  if a2 = (0 : Int32) then (
  dw_bd (fX10_pipeOf μ a1 (0 : Int32)) (fun r4 =>
  some r4))
  else (
  if a2 = (1 : Int32) then (
  dw_bd (fX10_pipeOf μ a1 (11 : Int32)) (fun r7 =>
  some r7))
  else (
  if a2 = (2 : Int32) then (
  dw_bd (fX10_pipeOf μ a1 (5 : Int32)) (fun r10 =>
  some r10))
  else (
  if a2 = (3 : Int32) then (
  dw_bd (fX10_bears μ a1) (fun r13 =>
  some r13))
  else (
  if a2 = (4 : Int32) then (
  dw_bd (fX10_holds μ a1) (fun r16 =>
  some r16))
  else (
  if a2 = (5 : Int32) then (
  dw_bd (fX10_rank μ a1) (fun r19 =>
  some r19))
  else (
  if a2 = (6 : Int32) then (
  dw_bd (fX10_pipeOf μ a1 (7 : Int32)) (fun r22 =>
  some r22))
  else (
  if a2 = (7 : Int32) then (
  dw_bd (fX10_pipeOf μ a1 (8 : Int32)) (fun r25 =>
  some r25))
  else (
  if a2 = (8 : Int32) then (
  dw_bd (fX10_pipeOf μ a1 (9 : Int32)) (fun r28 =>
  some r28))
  else (
  if a2 = (9 : Int32) then (
  dw_bd (fX10_pipeOf μ a1 (6 : Int32)) (fun r31 =>
  some r31))
  else (
  if a2 = (10 : Int32) then (
  dw_bd (fX10_peak μ a1) (fun r34 =>
  some r34))
  else (
  if a2 = (11 : Int32) then (
  dw_bd (fX10_pipeOf μ a1 (10 : Int32)) (fun r37 =>
  some r37))
  else (
  some (-1 : Int32))))))))))))))
set_option maxHeartbeats 4000000 in
set_option maxRecDepth 100000 in
theorem kX10_of (l : Launch) (Γ : dw_G) (hj : dw_inj Γ) (μ : dw_M) (a1 : Int32) (a2 : Int32) {r : Int32} (h : fX10_of μ a1 a2 = some r) : Met l yX10_of (dw_ws yX10_of cX10_of 3 (some .int)) (dw_rm 3 66) (dw_P Γ ([.ref (dw_ad Γ 142), .int a1, .int a2] : List Value) μ) (dw_Qi Γ r μ) 0 0 (dw_A Γ) := by
  refine dw_met (own := RX10) rfl rfl (Nat.le_of_ble_eq_true rfl) hj ?_
  intro p e s m below meth c C0 hr hlk Z ls hl
  have hx := C0.1
  have hb := C0.2.1
  have hl : lv_has ls 3 [(0, .ref (dw_ad Γ 142)), (1, .int a1), (2, .int a2)] := hl
  suffices key : ∀ (H : Heap) (locs : List Loc), dw_Z Γ (dw_A Γ) s.heap μ H locs → W p l e (dw_rm 3 66) s m ([.ref (dw_ad Γ 142), .int a1, .int a2] : List Value).toArray below meth c H locs 0 0 (MQ below (dw_Qi Γ r μ) ([.ref (dw_ad Γ 142), .int a1, .int a2] : List Value).toArray s 0 0 (dw_A Γ)) (F0 m 0 ls []) from key _ _ Z
  clear Z
  intro H locs Z
  unfold fX10_of at h
  refine lv_aload_n hx hb dX10_of_0 rfl (lv_at hl 0 rfl) ?_
  refine lv_iload_n hx hb dX10_of_1 rfl (lv_at hl 1 rfl) ?_
  refine dw_cVi C0 Z dw_hA (dw_lt dw_kc142 (by decide)) (dw_cz10 dw_kc142) rfl (As := [.int a1]) (rest := []) (kX10_isPipe l Γ hj μ a1 rfl) (dw_gV tw_lX10_62 tw_vX10_isPipe tw_eX10_isPipe tw_iX10 tw_kX10_isPipe) dw_hX10_isPipe ⟨Nat.le_of_ble_eq_true rfl, Nat.le_of_ble_eq_true rfl⟩ ⟨Nat.zero_le _, Nat.zero_le _⟩ hl.1 (Nat.le_of_ble_eq_true rfl) rfl dX10_of_2 (fun H locs Z => ?_)
  refine lv_if_ne (tgt := 10) hx hb dX10_of_5 (by decide) (fun c1 => ?_) (fun c1 => ?_)
  · have h := dw_ifF c1 h
    refine lv_iload_n hx hb dX10_of_10 rfl (lv_at hl 2 rfl) ?_
    by_cases c2 : a2 = (0 : Int32)
    · have h := dw_ifT c2 h
      refine lv_tableIn (off := 61) (tgt := 72) hx hb dX10_of_11 (by rw [c2]; decide) (by rw [c2]; decide) (by rw [c2]; rfl) (by decide) ?_
      refine lv_aload_n hx hb dX10_of_72 rfl (lv_at hl 0 rfl) ?_
      refine lv_iload_n hx hb dX10_of_73 rfl (lv_at hl 1 rfl) ?_
      refine lv_iconst (v := (0 : Int32)) hx hb dX10_of_74 (by decide) ?_
      obtain ⟨r4, hc3, h⟩ := dw_bdS h
      refine dw_cVi C0 Z dw_hA (dw_lt dw_kc142 (by decide)) (dw_cz10 dw_kc142) rfl (As := [.int a1, .int (0 : Int32)]) (rest := []) (kX10_pipeOf l Γ hj μ a1 (0 : Int32) hc3) (dw_gV tw_lX10_55 tw_vX10_pipeOf tw_eX10_pipeOf tw_iX10 tw_kX10_pipeOf) dw_hX10_pipeOf ⟨Nat.le_of_ble_eq_true rfl, Nat.le_of_ble_eq_true rfl⟩ ⟨Nat.zero_le _, Nat.zero_le _⟩ hl.1 (Nat.le_of_ble_eq_true rfl) rfl dX10_of_75 (fun H locs Z => ?_)
      obtain rfl := dw_s1 h
      exact dw_iret C0 Z hr hlk dX10_of_78
    have h := dw_ifF c2 h
    by_cases c5 : a2 = (1 : Int32)
    · have h := dw_ifT c5 h
      refine lv_tableIn (off := 68) (tgt := 79) hx hb dX10_of_11 (by rw [c5]; decide) (by rw [c5]; decide) (by rw [c5]; rfl) (by decide) ?_
      refine lv_aload_n hx hb dX10_of_79 rfl (lv_at hl 0 rfl) ?_
      refine lv_iload_n hx hb dX10_of_80 rfl (lv_at hl 1 rfl) ?_
      refine lv_bipush (v := (11 : Int32)) hx hb dX10_of_81 (by decide) ?_
      obtain ⟨r7, hc6, h⟩ := dw_bdS h
      refine dw_cVi C0 Z dw_hA (dw_lt dw_kc142 (by decide)) (dw_cz10 dw_kc142) rfl (As := [.int a1, .int (11 : Int32)]) (rest := []) (kX10_pipeOf l Γ hj μ a1 (11 : Int32) hc6) (dw_gV tw_lX10_55 tw_vX10_pipeOf tw_eX10_pipeOf tw_iX10 tw_kX10_pipeOf) dw_hX10_pipeOf ⟨Nat.le_of_ble_eq_true rfl, Nat.le_of_ble_eq_true rfl⟩ ⟨Nat.zero_le _, Nat.zero_le _⟩ hl.1 (Nat.le_of_ble_eq_true rfl) rfl dX10_of_83 (fun H locs Z => ?_)
      obtain rfl := dw_s1 h
      exact dw_iret C0 Z hr hlk dX10_of_86
    have h := dw_ifF c5 h
    by_cases c8 : a2 = (2 : Int32)
    · have h := dw_ifT c8 h
      refine lv_tableIn (off := 76) (tgt := 87) hx hb dX10_of_11 (by rw [c8]; decide) (by rw [c8]; decide) (by rw [c8]; rfl) (by decide) ?_
      refine lv_aload_n hx hb dX10_of_87 rfl (lv_at hl 0 rfl) ?_
      refine lv_iload_n hx hb dX10_of_88 rfl (lv_at hl 1 rfl) ?_
      refine lv_iconst (v := (5 : Int32)) hx hb dX10_of_89 (by decide) ?_
      obtain ⟨r10, hc9, h⟩ := dw_bdS h
      refine dw_cVi C0 Z dw_hA (dw_lt dw_kc142 (by decide)) (dw_cz10 dw_kc142) rfl (As := [.int a1, .int (5 : Int32)]) (rest := []) (kX10_pipeOf l Γ hj μ a1 (5 : Int32) hc9) (dw_gV tw_lX10_55 tw_vX10_pipeOf tw_eX10_pipeOf tw_iX10 tw_kX10_pipeOf) dw_hX10_pipeOf ⟨Nat.le_of_ble_eq_true rfl, Nat.le_of_ble_eq_true rfl⟩ ⟨Nat.zero_le _, Nat.zero_le _⟩ hl.1 (Nat.le_of_ble_eq_true rfl) rfl dX10_of_90 (fun H locs Z => ?_)
      obtain rfl := dw_s1 h
      exact dw_iret C0 Z hr hlk dX10_of_93
    have h := dw_ifF c8 h
    by_cases c11 : a2 = (3 : Int32)
    · have h := dw_ifT c11 h
      refine lv_tableIn (off := 83) (tgt := 94) hx hb dX10_of_11 (by rw [c11]; decide) (by rw [c11]; decide) (by rw [c11]; rfl) (by decide) ?_
      refine lv_aload_n hx hb dX10_of_94 rfl (lv_at hl 0 rfl) ?_
      refine lv_iload_n hx hb dX10_of_95 rfl (lv_at hl 1 rfl) ?_
      obtain ⟨r13, hc12, h⟩ := dw_bdS h
      refine dw_cVi C0 Z dw_hA (dw_lt dw_kc142 (by decide)) (dw_cz10 dw_kc142) rfl (As := [.int a1]) (rest := []) (kX10_bears l Γ hj μ a1 hc12) (dw_gV tw_lX10_74 tw_vX10_bears tw_eX10_bears tw_iX10 tw_kX10_bears) dw_hX10_bears ⟨Nat.le_of_ble_eq_true rfl, Nat.le_of_ble_eq_true rfl⟩ ⟨Nat.zero_le _, Nat.zero_le _⟩ hl.1 (Nat.le_of_ble_eq_true rfl) rfl dX10_of_96 (fun H locs Z => ?_)
      obtain rfl := dw_s1 h
      exact dw_iret C0 Z hr hlk dX10_of_99
    have h := dw_ifF c11 h
    by_cases c14 : a2 = (4 : Int32)
    · have h := dw_ifT c14 h
      refine lv_tableIn (off := 89) (tgt := 100) hx hb dX10_of_11 (by rw [c14]; decide) (by rw [c14]; decide) (by rw [c14]; rfl) (by decide) ?_
      refine lv_aload_n hx hb dX10_of_100 rfl (lv_at hl 0 rfl) ?_
      refine lv_iload_n hx hb dX10_of_101 rfl (lv_at hl 1 rfl) ?_
      obtain ⟨r16, hc15, h⟩ := dw_bdS h
      refine dw_cVi C0 Z dw_hA (dw_lt dw_kc142 (by decide)) (dw_cz10 dw_kc142) rfl (As := [.int a1]) (rest := []) (kX10_holds l Γ hj μ a1 hc15) (dw_gV tw_lX10_80 tw_vX10_holds tw_eX10_holds tw_iX10 tw_kX10_holds) dw_hX10_holds ⟨Nat.le_of_ble_eq_true rfl, Nat.le_of_ble_eq_true rfl⟩ ⟨Nat.zero_le _, Nat.zero_le _⟩ hl.1 (Nat.le_of_ble_eq_true rfl) rfl dX10_of_102 (fun H locs Z => ?_)
      obtain rfl := dw_s1 h
      exact dw_iret C0 Z hr hlk dX10_of_105
    have h := dw_ifF c14 h
    by_cases c17 : a2 = (5 : Int32)
    · have h := dw_ifT c17 h
      refine lv_tableIn (off := 95) (tgt := 106) hx hb dX10_of_11 (by rw [c17]; decide) (by rw [c17]; decide) (by rw [c17]; rfl) (by decide) ?_
      refine lv_aload_n hx hb dX10_of_106 rfl (lv_at hl 0 rfl) ?_
      refine lv_iload_n hx hb dX10_of_107 rfl (lv_at hl 1 rfl) ?_
      obtain ⟨r19, hc18, h⟩ := dw_bdS h
      refine dw_cVi C0 Z dw_hA (dw_lt dw_kc142 (by decide)) (dw_cz10 dw_kc142) rfl (As := [.int a1]) (rest := []) (kX10_rank l Γ hj μ a1 hc18) (dw_gV tw_lX10_71 tw_vX10_rank tw_eX10_rank tw_iX10 tw_kX10_rank) dw_hX10_rank ⟨Nat.le_of_ble_eq_true rfl, Nat.le_of_ble_eq_true rfl⟩ ⟨Nat.zero_le _, Nat.zero_le _⟩ hl.1 (Nat.le_of_ble_eq_true rfl) rfl dX10_of_108 (fun H locs Z => ?_)
      obtain rfl := dw_s1 h
      exact dw_iret C0 Z hr hlk dX10_of_111
    have h := dw_ifF c17 h
    by_cases c20 : a2 = (6 : Int32)
    · have h := dw_ifT c20 h
      refine lv_tableIn (off := 101) (tgt := 112) hx hb dX10_of_11 (by rw [c20]; decide) (by rw [c20]; decide) (by rw [c20]; rfl) (by decide) ?_
      refine lv_aload_n hx hb dX10_of_112 rfl (lv_at hl 0 rfl) ?_
      refine lv_iload_n hx hb dX10_of_113 rfl (lv_at hl 1 rfl) ?_
      refine lv_bipush (v := (7 : Int32)) hx hb dX10_of_114 (by decide) ?_
      obtain ⟨r22, hc21, h⟩ := dw_bdS h
      refine dw_cVi C0 Z dw_hA (dw_lt dw_kc142 (by decide)) (dw_cz10 dw_kc142) rfl (As := [.int a1, .int (7 : Int32)]) (rest := []) (kX10_pipeOf l Γ hj μ a1 (7 : Int32) hc21) (dw_gV tw_lX10_55 tw_vX10_pipeOf tw_eX10_pipeOf tw_iX10 tw_kX10_pipeOf) dw_hX10_pipeOf ⟨Nat.le_of_ble_eq_true rfl, Nat.le_of_ble_eq_true rfl⟩ ⟨Nat.zero_le _, Nat.zero_le _⟩ hl.1 (Nat.le_of_ble_eq_true rfl) rfl dX10_of_116 (fun H locs Z => ?_)
      obtain rfl := dw_s1 h
      exact dw_iret C0 Z hr hlk dX10_of_119
    have h := dw_ifF c20 h
    by_cases c23 : a2 = (7 : Int32)
    · have h := dw_ifT c23 h
      refine lv_tableIn (off := 109) (tgt := 120) hx hb dX10_of_11 (by rw [c23]; decide) (by rw [c23]; decide) (by rw [c23]; rfl) (by decide) ?_
      refine lv_aload_n hx hb dX10_of_120 rfl (lv_at hl 0 rfl) ?_
      refine lv_iload_n hx hb dX10_of_121 rfl (lv_at hl 1 rfl) ?_
      refine lv_bipush (v := (8 : Int32)) hx hb dX10_of_122 (by decide) ?_
      obtain ⟨r25, hc24, h⟩ := dw_bdS h
      refine dw_cVi C0 Z dw_hA (dw_lt dw_kc142 (by decide)) (dw_cz10 dw_kc142) rfl (As := [.int a1, .int (8 : Int32)]) (rest := []) (kX10_pipeOf l Γ hj μ a1 (8 : Int32) hc24) (dw_gV tw_lX10_55 tw_vX10_pipeOf tw_eX10_pipeOf tw_iX10 tw_kX10_pipeOf) dw_hX10_pipeOf ⟨Nat.le_of_ble_eq_true rfl, Nat.le_of_ble_eq_true rfl⟩ ⟨Nat.zero_le _, Nat.zero_le _⟩ hl.1 (Nat.le_of_ble_eq_true rfl) rfl dX10_of_124 (fun H locs Z => ?_)
      obtain rfl := dw_s1 h
      exact dw_iret C0 Z hr hlk dX10_of_127
    have h := dw_ifF c23 h
    by_cases c26 : a2 = (8 : Int32)
    · have h := dw_ifT c26 h
      refine lv_tableIn (off := 117) (tgt := 128) hx hb dX10_of_11 (by rw [c26]; decide) (by rw [c26]; decide) (by rw [c26]; rfl) (by decide) ?_
      refine lv_aload_n hx hb dX10_of_128 rfl (lv_at hl 0 rfl) ?_
      refine lv_iload_n hx hb dX10_of_129 rfl (lv_at hl 1 rfl) ?_
      refine lv_bipush (v := (9 : Int32)) hx hb dX10_of_130 (by decide) ?_
      obtain ⟨r28, hc27, h⟩ := dw_bdS h
      refine dw_cVi C0 Z dw_hA (dw_lt dw_kc142 (by decide)) (dw_cz10 dw_kc142) rfl (As := [.int a1, .int (9 : Int32)]) (rest := []) (kX10_pipeOf l Γ hj μ a1 (9 : Int32) hc27) (dw_gV tw_lX10_55 tw_vX10_pipeOf tw_eX10_pipeOf tw_iX10 tw_kX10_pipeOf) dw_hX10_pipeOf ⟨Nat.le_of_ble_eq_true rfl, Nat.le_of_ble_eq_true rfl⟩ ⟨Nat.zero_le _, Nat.zero_le _⟩ hl.1 (Nat.le_of_ble_eq_true rfl) rfl dX10_of_132 (fun H locs Z => ?_)
      obtain rfl := dw_s1 h
      exact dw_iret C0 Z hr hlk dX10_of_135
    have h := dw_ifF c26 h
    by_cases c29 : a2 = (9 : Int32)
    · have h := dw_ifT c29 h
      refine lv_tableIn (off := 125) (tgt := 136) hx hb dX10_of_11 (by rw [c29]; decide) (by rw [c29]; decide) (by rw [c29]; rfl) (by decide) ?_
      refine lv_aload_n hx hb dX10_of_136 rfl (lv_at hl 0 rfl) ?_
      refine lv_iload_n hx hb dX10_of_137 rfl (lv_at hl 1 rfl) ?_
      refine lv_bipush (v := (6 : Int32)) hx hb dX10_of_138 (by decide) ?_
      obtain ⟨r31, hc30, h⟩ := dw_bdS h
      refine dw_cVi C0 Z dw_hA (dw_lt dw_kc142 (by decide)) (dw_cz10 dw_kc142) rfl (As := [.int a1, .int (6 : Int32)]) (rest := []) (kX10_pipeOf l Γ hj μ a1 (6 : Int32) hc30) (dw_gV tw_lX10_55 tw_vX10_pipeOf tw_eX10_pipeOf tw_iX10 tw_kX10_pipeOf) dw_hX10_pipeOf ⟨Nat.le_of_ble_eq_true rfl, Nat.le_of_ble_eq_true rfl⟩ ⟨Nat.zero_le _, Nat.zero_le _⟩ hl.1 (Nat.le_of_ble_eq_true rfl) rfl dX10_of_140 (fun H locs Z => ?_)
      obtain rfl := dw_s1 h
      exact dw_iret C0 Z hr hlk dX10_of_143
    have h := dw_ifF c29 h
    by_cases c32 : a2 = (10 : Int32)
    · have h := dw_ifT c32 h
      refine lv_tableIn (off := 133) (tgt := 144) hx hb dX10_of_11 (by rw [c32]; decide) (by rw [c32]; decide) (by rw [c32]; rfl) (by decide) ?_
      refine lv_aload_n hx hb dX10_of_144 rfl (lv_at hl 0 rfl) ?_
      refine lv_iload_n hx hb dX10_of_145 rfl (lv_at hl 1 rfl) ?_
      obtain ⟨r34, hc33, h⟩ := dw_bdS h
      refine dw_cVi C0 Z dw_hA (dw_lt dw_kc142 (by decide)) (dw_cz10 dw_kc142) rfl (As := [.int a1]) (rest := []) (kX10_peak l Γ hj μ a1 hc33) (dw_gV tw_lX10_83 tw_vX10_peak tw_eX10_peak tw_iX10 tw_kX10_peak) dw_hX10_peak ⟨Nat.le_of_ble_eq_true rfl, Nat.le_of_ble_eq_true rfl⟩ ⟨Nat.zero_le _, Nat.zero_le _⟩ hl.1 (Nat.le_of_ble_eq_true rfl) rfl dX10_of_146 (fun H locs Z => ?_)
      obtain rfl := dw_s1 h
      exact dw_iret C0 Z hr hlk dX10_of_149
    have h := dw_ifF c32 h
    by_cases c35 : a2 = (11 : Int32)
    · have h := dw_ifT c35 h
      refine lv_tableIn (off := 139) (tgt := 150) hx hb dX10_of_11 (by rw [c35]; decide) (by rw [c35]; decide) (by rw [c35]; rfl) (by decide) ?_
      refine lv_aload_n hx hb dX10_of_150 rfl (lv_at hl 0 rfl) ?_
      refine lv_iload_n hx hb dX10_of_151 rfl (lv_at hl 1 rfl) ?_
      refine lv_bipush (v := (10 : Int32)) hx hb dX10_of_152 (by decide) ?_
      obtain ⟨r37, hc36, h⟩ := dw_bdS h
      refine dw_cVi C0 Z dw_hA (dw_lt dw_kc142 (by decide)) (dw_cz10 dw_kc142) rfl (As := [.int a1, .int (10 : Int32)]) (rest := []) (kX10_pipeOf l Γ hj μ a1 (10 : Int32) hc36) (dw_gV tw_lX10_55 tw_vX10_pipeOf tw_eX10_pipeOf tw_iX10 tw_kX10_pipeOf) dw_hX10_pipeOf ⟨Nat.le_of_ble_eq_true rfl, Nat.le_of_ble_eq_true rfl⟩ ⟨Nat.zero_le _, Nat.zero_le _⟩ hl.1 (Nat.le_of_ble_eq_true rfl) rfl dX10_of_154 (fun H locs Z => ?_)
      obtain rfl := dw_s1 h
      exact dw_iret C0 Z hr hlk dX10_of_157
    have h := dw_ifF c35 h
    have tc2 := dw_ti c2 (k := 0) (by decide)
    have tc5 := dw_ti c5 (k := 1) (by decide)
    have tc8 := dw_ti c8 (k := 2) (by decide)
    have tc11 := dw_ti c11 (k := 3) (by decide)
    have tc14 := dw_ti c14 (k := 4) (by decide)
    have tc17 := dw_ti c17 (k := 5) (by decide)
    have tc20 := dw_ti c20 (k := 6) (by decide)
    have tc23 := dw_ti c23 (k := 7) (by decide)
    have tc26 := dw_ti c26 (k := 8) (by decide)
    have tc29 := dw_ti c29 (k := 9) (by decide)
    have tc32 := dw_ti c32 (k := 10) (by decide)
    have tc35 := dw_ti c35 (k := 11) (by decide)
    refine lv_tableOut (tgt := 158) hx hb dX10_of_11 (by omega) (by decide) ?_
    refine lv_iconst (v := (-1 : Int32)) hx hb dX10_of_158 (by decide) ?_
    obtain rfl := dw_s1 h
    exact dw_iret C0 Z hr hlk dX10_of_159
  · have h := dw_ifT c1 h
    refine lv_iconst (v := (-1 : Int32)) hx hb dX10_of_8 (by decide) ?_
    obtain rfl := dw_s1 h
    exact dw_iret C0 Z hr hlk dX10_of_9

def fX10_step (μ : dw_M) (a1 : Int32) (a2 : Int32) (a3 : Int32) : Option (Int32) :=
  if (fX10_isPipe μ a1) = 0 then (
  some (-10000 : Int32))
  else (
  dw_bd (fX10_pipeOf μ a1 (11 : Int32)) (fun r3 =>
  if (fX10_in a2 (0 : Int32) (r3 - (1 : Int32))) = 0 then (
  some (-10000 : Int32))
  else (
  if (fX10_in a3 (0 : Int32) (2 : Int32)) = 0 then (
  some (-10000 : Int32))
  else (
  dw_bd (fX10_stepPlace μ a1 a2) (fun r7 =>
  if a3 = 0 then (
  some r7)
  else (
  if a3 = (1 : Int32) then (
  dw_bd (fX10_levelAt μ a1 a2) (fun r14 =>
  some r14))
  else (
  dw_gd (dw_ok ((20 : Int32) + r7) 800) (
  dw_bd (fX10_levelAt μ a1 a2) (fun r12 =>
  some ((μ.1 143 ((20 : Int32) + r7).toNatClampNeg) - r12))))))))))
set_option maxHeartbeats 4000000 in
set_option maxRecDepth 100000 in
theorem kX10_step (l : Launch) (Γ : dw_G) (hj : dw_inj Γ) (μ : dw_M) (a1 : Int32) (a2 : Int32) (a3 : Int32) {r : Int32} (h : fX10_step μ a1 a2 a3 = some r) : Met l yX10_step (dw_ws yX10_step cX10_step 5 (some .int)) (dw_rm 3 67) (dw_P Γ ([.ref (dw_ad Γ 142), .int a1, .int a2, .int a3] : List Value) μ) (dw_Qi Γ r μ) 0 0 (dw_A Γ) := by
  refine dw_met (own := RX10) rfl rfl (Nat.le_of_ble_eq_true rfl) hj ?_
  intro p e s m below meth c C0 hr hlk Z ls hl
  have hx := C0.1
  have hb := C0.2.1
  have hl : lv_has ls 5 [(0, .ref (dw_ad Γ 142)), (1, .int a1), (2, .int a2), (3, .int a3)] := hl
  suffices key : ∀ (H : Heap) (locs : List Loc), dw_Z Γ (dw_A Γ) s.heap μ H locs → W p l e (dw_rm 3 67) s m ([.ref (dw_ad Γ 142), .int a1, .int a2, .int a3] : List Value).toArray below meth c H locs 0 0 (MQ below (dw_Qi Γ r μ) ([.ref (dw_ad Γ 142), .int a1, .int a2, .int a3] : List Value).toArray s 0 0 (dw_A Γ)) (F0 m 0 ls []) from key _ _ Z
  clear Z
  intro H locs Z
  unfold fX10_step at h
  refine lv_aload_n hx hb dX10_step_0 rfl (lv_at hl 0 rfl) ?_
  refine lv_iload_n hx hb dX10_step_1 rfl (lv_at hl 1 rfl) ?_
  refine dw_cVi C0 Z dw_hA (dw_lt dw_kc142 (by decide)) (dw_cz10 dw_kc142) rfl (As := [.int a1]) (rest := []) (kX10_isPipe l Γ hj μ a1 rfl) (dw_gV tw_lX10_62 tw_vX10_isPipe tw_eX10_isPipe tw_iX10 tw_kX10_isPipe) dw_hX10_isPipe ⟨Nat.le_of_ble_eq_true rfl, Nat.le_of_ble_eq_true rfl⟩ ⟨Nat.zero_le _, Nat.zero_le _⟩ hl.1 (Nat.le_of_ble_eq_true rfl) rfl dX10_step_2 (fun H locs Z => ?_)
  refine lv_if_eq (tgt := 34) hx hb dX10_step_5 (by decide) (fun c1 => ?_) (fun c1 => ?_)
  · have h := dw_ifT c1 h
    refine lv_sipush (v := (-10000 : Int32)) hx hb dX10_step_34 (by decide) ?_
    obtain rfl := dw_s1 h
    exact dw_iret C0 Z hr hlk dX10_step_37
  · have h := dw_ifF c1 h
    refine lv_iload_n hx hb dX10_step_8 rfl (lv_at hl 2 rfl) ?_
    refine lv_iconst (v := (0 : Int32)) hx hb dX10_step_9 (by decide) ?_
    refine lv_aload_n hx hb dX10_step_10 rfl (lv_at hl 0 rfl) ?_
    refine lv_iload_n hx hb dX10_step_11 rfl (lv_at hl 1 rfl) ?_
    refine lv_bipush (v := (11 : Int32)) hx hb dX10_step_12 (by decide) ?_
    obtain ⟨r3, hc2, h⟩ := dw_bdS h
    refine dw_cVi C0 Z dw_hA (dw_lt dw_kc142 (by decide)) (dw_cz10 dw_kc142) rfl (As := [.int a1, .int (11 : Int32)]) (rest := [.int (0 : Int32), .int a2]) (kX10_pipeOf l Γ hj μ a1 (11 : Int32) hc2) (dw_gV tw_lX10_55 tw_vX10_pipeOf tw_eX10_pipeOf tw_iX10 tw_kX10_pipeOf) dw_hX10_pipeOf ⟨Nat.le_of_ble_eq_true rfl, Nat.le_of_ble_eq_true rfl⟩ ⟨Nat.zero_le _, Nat.zero_le _⟩ hl.1 (Nat.le_of_ble_eq_true rfl) rfl dX10_step_14 (fun H locs Z => ?_)
    refine lv_iconst (v := (1 : Int32)) hx hb dX10_step_17 (by decide) ?_
    refine lv_isub hx hb dX10_step_18 ?_
    refine dw_cSi C0 Z dw_hA (As := [.int a2, .int (0 : Int32), .int (r3 - (1 : Int32))]) (rest := []) (kX10_in l Γ hj μ a2 (0 : Int32) (r3 - (1 : Int32)) rfl) (dw_gS tw_lX10_29 tw_sX10_in tw_iX10 tw_kX10_in) dw_hX10_in ⟨Nat.le_of_ble_eq_true rfl, Nat.le_of_ble_eq_true rfl⟩ ⟨Nat.zero_le _, Nat.zero_le _⟩ hl.1 (Nat.le_of_ble_eq_true rfl) rfl dX10_step_19 (fun H locs Z => ?_)
    refine lv_if_eq (tgt := 34) hx hb dX10_step_22 (by decide) (fun c4 => ?_) (fun c4 => ?_)
    · have h := dw_ifT c4 h
      refine lv_sipush (v := (-10000 : Int32)) hx hb dX10_step_34 (by decide) ?_
      obtain rfl := dw_s1 h
      exact dw_iret C0 Z hr hlk dX10_step_37
    · have h := dw_ifF c4 h
      refine lv_iload_n hx hb dX10_step_25 rfl (lv_at hl 3 rfl) ?_
      refine lv_iconst (v := (0 : Int32)) hx hb dX10_step_26 (by decide) ?_
      refine lv_iconst (v := (2 : Int32)) hx hb dX10_step_27 (by decide) ?_
      refine dw_cSi C0 Z dw_hA (As := [.int a3, .int (0 : Int32), .int (2 : Int32)]) (rest := []) (kX10_in l Γ hj μ a3 (0 : Int32) (2 : Int32) rfl) (dw_gS tw_lX10_29 tw_sX10_in tw_iX10 tw_kX10_in) dw_hX10_in ⟨Nat.le_of_ble_eq_true rfl, Nat.le_of_ble_eq_true rfl⟩ ⟨Nat.zero_le _, Nat.zero_le _⟩ hl.1 (Nat.le_of_ble_eq_true rfl) rfl dX10_step_28 (fun H locs Z => ?_)
      refine lv_if_ne (tgt := 38) hx hb dX10_step_31 (by decide) (fun c5 => ?_) (fun c5 => ?_)
      · have h := dw_ifF c5 h
        refine lv_aload_n hx hb dX10_step_38 rfl (lv_at hl 0 rfl) ?_
        refine lv_iload_n hx hb dX10_step_39 rfl (lv_at hl 1 rfl) ?_
        refine lv_iload_n hx hb dX10_step_40 rfl (lv_at hl 2 rfl) ?_
        obtain ⟨r7, hc6, h⟩ := dw_bdS h
        refine dw_cVi C0 Z dw_hA (dw_lt dw_kc142 (by decide)) (dw_cz10 dw_kc142) rfl (As := [.int a1, .int a2]) (rest := []) (kX10_stepPlace l Γ hj μ a1 a2 hc6) (dw_gV tw_lX10_59 tw_vX10_stepPlace tw_eX10_stepPlace tw_iX10 tw_kX10_stepPlace) dw_hX10_stepPlace ⟨Nat.le_of_ble_eq_true rfl, Nat.le_of_ble_eq_true rfl⟩ ⟨Nat.zero_le _, Nat.zero_le _⟩ hl.1 (Nat.le_of_ble_eq_true rfl) rfl dX10_step_41 (fun H locs Z => ?_)
        refine lv_istore (lv' := [(4, .int r7), (0, .ref (dw_ad Γ 142)), (1, .int a1), (2, .int a2), (3, .int a3)]) hx hb dX10_step_44 hl (by decide) rfl (fun ls hl => ?_)
        refine lv_iload_n hx hb dX10_step_46 rfl (lv_at hl 4 rfl) ?_
        refine lv_if_ne (tgt := 55) hx hb dX10_step_47 (by decide) (fun c8 => ?_) (fun c8 => ?_)
        · have h := dw_ifF c8 h
          refine lv_iload_n hx hb dX10_step_55 rfl (lv_at hl 4 rfl) ?_
          refine lv_iconst (v := (1 : Int32)) hx hb dX10_step_56 (by decide) ?_
          refine lv_icmp_ne (tgt := 69) hx hb dX10_step_57 (by decide) (fun c9 => ?_) (fun c9 => ?_)
          · have h := dw_ifF c9 h
            refine lv_aload_n hx hb dX10_step_69 rfl (lv_at hl 1 rfl) ?_
            refine dw_g10_0 (t := 143) C0 Z dw_kc142 tw_fX10_7 rfl dX10_step_70 ?_
            refine lv_bipush (v := (20 : Int32)) hx hb dX10_step_73 (by decide) ?_
            refine lv_iload hx hb dX10_step_75 (lv_at hl 0 rfl) ?_
            refine lv_iadd hx hb dX10_step_77 ?_
            obtain ⟨g10, h⟩ := dw_gdS h
            refine dw_ald C0 Z dw_kc143 dw_lc143 g10 dX10_step_78 ?_
            refine lv_aload_n hx hb dX10_step_79 rfl (lv_at hl 1 rfl) ?_
            refine lv_iload_n hx hb dX10_step_80 rfl (lv_at hl 2 rfl) ?_
            refine lv_iload_n hx hb dX10_step_81 rfl (lv_at hl 3 rfl) ?_
            obtain ⟨r12, hc11, h⟩ := dw_bdS h
            refine dw_cVi C0 Z dw_hA (dw_lt dw_kc142 (by decide)) (dw_cz10 dw_kc142) rfl (As := [.int a1, .int a2]) (rest := [.int (μ.1 143 ((20 : Int32) + r7).toNatClampNeg)]) (kX10_levelAt l Γ hj μ a1 a2 hc11) (dw_gV tw_lX10_68 tw_vX10_levelAt tw_eX10_levelAt tw_iX10 tw_kX10_levelAt) dw_hX10_levelAt ⟨Nat.le_of_ble_eq_true rfl, Nat.le_of_ble_eq_true rfl⟩ ⟨Nat.zero_le _, Nat.zero_le _⟩ hl.1 (Nat.le_of_ble_eq_true rfl) rfl dX10_step_82 (fun H locs Z => ?_)
            refine lv_isub hx hb dX10_step_85 ?_
            obtain rfl := dw_s1 h
            exact dw_iret C0 Z hr hlk dX10_step_86
          · have h := dw_ifT c9 h
            refine lv_aload_n hx hb dX10_step_60 rfl (lv_at hl 1 rfl) ?_
            refine lv_iload_n hx hb dX10_step_61 rfl (lv_at hl 2 rfl) ?_
            refine lv_iload_n hx hb dX10_step_62 rfl (lv_at hl 3 rfl) ?_
            obtain ⟨r14, hc13, h⟩ := dw_bdS h
            refine dw_cVi C0 Z dw_hA (dw_lt dw_kc142 (by decide)) (dw_cz10 dw_kc142) rfl (As := [.int a1, .int a2]) (rest := []) (kX10_levelAt l Γ hj μ a1 a2 hc13) (dw_gV tw_lX10_68 tw_vX10_levelAt tw_eX10_levelAt tw_iX10 tw_kX10_levelAt) dw_hX10_levelAt ⟨Nat.le_of_ble_eq_true rfl, Nat.le_of_ble_eq_true rfl⟩ ⟨Nat.zero_le _, Nat.zero_le _⟩ hl.1 (Nat.le_of_ble_eq_true rfl) rfl dX10_step_63 (fun H locs Z => ?_)
            refine lv_goto (tgt := 86) hx hb dX10_step_66 (by decide) ?_
            obtain rfl := dw_s1 h
            exact dw_iret C0 Z hr hlk dX10_step_86
        · have h := dw_ifT c8 h
          refine lv_iload hx hb dX10_step_50 (lv_at hl 0 rfl) ?_
          refine lv_goto (tgt := 86) hx hb dX10_step_52 (by decide) ?_
          obtain rfl := dw_s1 h
          exact dw_iret C0 Z hr hlk dX10_step_86
      · have h := dw_ifT c5 h
        refine lv_sipush (v := (-10000 : Int32)) hx hb dX10_step_34 (by decide) ?_
        obtain rfl := dw_s1 h
        exact dw_iret C0 Z hr hlk dX10_step_37

def sX10_rain_28 (a1 : Int32) (a2 : Int32) (x2 : Int32) (μ3 : dw_M) : Option ((Int32 × dw_M) ⊕ ((dw_M))) :=
  if (fX10_places μ3) ≤ x2 then (
  some (.inr μ3))
  else (
  if a1 = (-1 : Int32) then (
  dw_gd (dw_ok ((180 : Int32) + x2) 800) (
  dw_nm (dw_st μ3 143 ((180 : Int32) + x2).toNatClampNeg a2) (fun μ7 =>
  dw_nm (x2 + (1 : Int32)) (fun x8 =>
  some (.inl (x8, μ7))))))
  else (
  if a1 = x2 then (
  dw_gd (dw_ok ((180 : Int32) + x2) 800) (
  dw_nm (dw_st μ3 143 ((180 : Int32) + x2).toNatClampNeg a2) (fun μ14 =>
  dw_nm (x2 + (1 : Int32)) (fun x15 =>
  some (.inl (x15, μ14))))))
  else (
  dw_gd (dw_ok ((180 : Int32) + x2) 800) (
  dw_nm (dw_st μ3 143 ((180 : Int32) + x2).toNatClampNeg (μ3.1 143 ((180 : Int32) + x2).toNatClampNeg)) (fun μ11 =>
  dw_nm (x2 + (1 : Int32)) (fun x12 =>
  some (.inl (x12, μ11))))))))
def fX10_rain (μ : dw_M) (a1 : Int32) (a2 : Int32) : Option (Int32 × dw_M) :=
  dw_jm (if (fX10_in a2 (0 : Int32) (300 : Int32)) = 0 then (
  some ((-1 : Int32), μ))
  else (
  dw_bd (dw_wh (fun v => sX10_rain_28 a1 a2 v.1 v.2) 1000 ((0 : Int32), μ))
    (fun μ16 => some ((1 : Int32), μ16)))) (fun k13 =>
  if a1 = (-1 : Int32) then (
  k13)
  else (
  if (fX10_isPlace μ a1) = 0 then (
  some ((-1 : Int32), μ))
  else (
  k13)))
set_option maxHeartbeats 4000000 in
set_option maxRecDepth 100000 in
theorem kX10_rain (l : Launch) (Γ : dw_G) (hj : dw_inj Γ) (μ : dw_M) (a1 : Int32) (a2 : Int32) {r : Int32} {ν : dw_M} (h : fX10_rain μ a1 a2 = some (r, ν)) : Met l yX10_rain (dw_ws yX10_rain cX10_rain 4 (some .int)) (dw_rm 2 43) (dw_P Γ ([.ref (dw_ad Γ 142), .int a1, .int a2] : List Value) μ) (dw_Qi Γ r ν) 0 0 (dw_A Γ) := by
  refine dw_met (own := RX10) rfl rfl (Nat.le_of_ble_eq_true rfl) hj ?_
  intro p e s m below meth c C0 hr hlk Z ls hl
  have hx := C0.1
  have hb := C0.2.1
  have hl : lv_has ls 4 [(0, .ref (dw_ad Γ 142)), (1, .int a1), (2, .int a2)] := hl
  suffices key : ∀ (H : Heap) (locs : List Loc), dw_Z Γ (dw_A Γ) s.heap μ H locs → W p l e (dw_rm 2 43) s m ([.ref (dw_ad Γ 142), .int a1, .int a2] : List Value).toArray below meth c H locs 0 0 (MQ below (dw_Qi Γ r ν) ([.ref (dw_ad Γ 142), .int a1, .int a2] : List Value).toArray s 0 0 (dw_A Γ)) (F0 m 0 ls []) from key _ _ Z
  clear Z
  intro H locs Z
  unfold fX10_rain at h
  refine lv_iload_n hx hb dX10_rain_0 rfl (lv_at hl 1 rfl) ?_
  refine lv_iconst (v := (-1 : Int32)) hx hb dX10_rain_1 (by decide) ?_
  obtain ⟨k13, ek13, h⟩ := dw_jnS h
  have J13 : ∀ (H : Heap) (locs : List Loc) (ls : Array Slot), dw_Z Γ (dw_A Γ) s.heap μ H locs → lv_has ls 4 [(0, .ref (dw_ad Γ 142)), (1, .int a1), (2, .int a2)] → k13 = some (r, ν) → W p l e (dw_rm 2 43) s m ([.ref (dw_ad Γ 142), .int a1, .int a2] : List Value).toArray below meth c H locs 0 0 (MQ below (dw_Qi Γ r ν) ([.ref (dw_ad Γ 142), .int a1, .int a2] : List Value).toArray s 0 0 (dw_A Γ)) (F0 m 13 ls []) := by
    clear h
    intro  H locs ls Z hl h
    rw [ek13] at h
    refine lv_iload_n hx hb dX10_rain_13 rfl (lv_at hl 2 rfl) ?_
    refine lv_iconst (v := (0 : Int32)) hx hb dX10_rain_14 (by decide) ?_
    refine lv_sipush (v := (300 : Int32)) hx hb dX10_rain_15 (by decide) ?_
    refine dw_cSi C0 Z dw_hA (As := [.int a2, .int (0 : Int32), .int (300 : Int32)]) (rest := []) (kX10_in l Γ hj μ a2 (0 : Int32) (300 : Int32) rfl) (dw_gS tw_lX10_29 tw_sX10_in tw_iX10 tw_kX10_in) dw_hX10_in ⟨Nat.le_of_ble_eq_true rfl, Nat.le_of_ble_eq_true rfl⟩ ⟨Nat.zero_le _, Nat.zero_le _⟩ hl.1 (Nat.le_of_ble_eq_true rfl) rfl dX10_rain_18 (fun H locs Z => ?_)
    refine lv_if_ne (tgt := 26) hx hb dX10_rain_21 (by decide) (fun c1 => ?_) (fun c1 => ?_)
    · have h := dw_ifF c1 h
      refine lv_iconst (v := (0 : Int32)) hx hb dX10_rain_26 (by decide) ?_
      refine lv_istore_n (lv' := [(3, .int (0 : Int32)), (0, .ref (dw_ad Γ 142)), (1, .int a1), (2, .int a2)]) hx hb dX10_rain_27 rfl hl (by decide) rfl (fun ls hl => ?_)
      obtain ⟨kc28, ekc28, h⟩ := dw_bdK h
      have E28 : ∀ (μ16 : dw_M) (H : Heap) (locs : List Loc) (ls : Array Slot), dw_Z Γ (dw_A Γ) s.heap μ16 H locs → lv_has ls 4 [] → kc28 μ16 = some (r, ν) → W p l e (dw_rm 2 43) s m ([.ref (dw_ad Γ 142), .int a1, .int a2] : List Value).toArray below meth c H locs 0 0 (MQ below (dw_Qi Γ r ν) ([.ref (dw_ad Γ 142), .int a1, .int a2] : List Value).toArray s 0 0 (dw_A Γ)) (F0 m 76 ls []) := by
        intro μ16 H locs ls Z hl h
        rw [ekc28] at h
        dsimp only at h
        refine lv_iconst (v := (1 : Int32)) hx hb dX10_rain_76 (by decide) ?_
        obtain ⟨rfl, rfl⟩ := dw_s2 h
        exact dw_iret C0 Z hr hlk dX10_rain_77
      have L28 : ∀ (n28 : Nat) (x2 : Int32) (μ3 : dw_M) (H : Heap) (locs : List Loc) (ls : Array Slot), dw_Z Γ (dw_A Γ) s.heap μ3 H locs → lv_has ls 4 [(0, .ref (dw_ad Γ 142)), (1, .int a1), (2, .int a2), (3, .int x2)] → dw_bd (dw_wh (fun v => sX10_rain_28 a1 a2 v.1 v.2) n28 (x2, μ3)) kc28 = some (r, ν) → W p l e (dw_rm 2 43) s m ([.ref (dw_ad Γ 142), .int a1, .int a2] : List Value).toArray below meth c H locs 0 0 (MQ below (dw_Qi Γ r ν) ([.ref (dw_ad Γ 142), .int a1, .int a2] : List Value).toArray s 0 0 (dw_A Γ)) (F0 m 28 ls []) := by
        clear h
        intro n28
        induction n28 with
        | zero =>
          intro x2 μ3 H locs ls Z hl h
          exact (dw_wh0 h).elim
        | succ n28 ih28 =>
          intro x2 μ3 H locs ls Z hl h
          obtain ⟨q28, hs, hq28⟩ := dw_whB h
          have h : sX10_rain_28 a1 a2 x2 μ3 = some q28 := hs
          unfold sX10_rain_28 at h
          refine lv_iload_n hx hb dX10_rain_28 rfl (lv_at hl 3 rfl) ?_
          refine lv_aload_n hx hb dX10_rain_29 rfl (lv_at hl 0 rfl) ?_
          refine dw_cVi C0 Z dw_hA (dw_lt dw_kc142 (by decide)) (dw_cz10 dw_kc142) rfl (As := []) (rest := [.int x2]) (kX10_places l Γ hj μ3 rfl) (dw_gV tw_lX10_25 tw_vX10_places tw_eX10_places tw_iX10 tw_kX10_places) dw_hX10_places ⟨Nat.le_of_ble_eq_true rfl, Nat.le_of_ble_eq_true rfl⟩ ⟨Nat.zero_le _, Nat.zero_le _⟩ hl.1 (Nat.le_of_ble_eq_true rfl) rfl dX10_rain_30 (fun H locs Z => ?_)
          refine lv_icmp_ge (tgt := 76) hx hb dX10_rain_33 (by decide) (fun c4 => ?_) (fun c4 => ?_)
          · have h := dw_ifT c4 h
            obtain rfl := dw_s1 h
            exact E28  μ3 H locs ls Z (lv_sub hl [] rfl) hq28
          · have h := dw_ifF c4 h
            refine lv_aload_n hx hb dX10_rain_36 rfl (lv_at hl 0 rfl) ?_
            refine dw_g10_0 (t := 143) C0 Z dw_kc142 tw_fX10_7 rfl dX10_rain_37 ?_
            refine lv_sipush (v := (180 : Int32)) hx hb dX10_rain_40 (by decide) ?_
            refine lv_iload_n hx hb dX10_rain_43 rfl (lv_at hl 3 rfl) ?_
            refine lv_iadd hx hb dX10_rain_44 ?_
            refine lv_iload_n hx hb dX10_rain_45 rfl (lv_at hl 1 rfl) ?_
            refine lv_iconst (v := (-1 : Int32)) hx hb dX10_rain_46 (by decide) ?_
            refine lv_icmp_eq (tgt := 55) hx hb dX10_rain_47 (by decide) (fun c5 => ?_) (fun c5 => ?_)
            · have h := dw_ifT c5 h
              refine lv_iload_n hx hb dX10_rain_55 rfl (lv_at hl 2 rfl) ?_
              refine lv_goto (tgt := 69) hx hb dX10_rain_56 (by decide) ?_
              obtain ⟨g6, h⟩ := dw_gdS h
              refine dw_ast C0 Z dw_hA dw_kc143 dw_lc143 g6 dX10_rain_69 (fun μ7 eμ7 H locs Z => ?_)
              have h := dw_nmS eμ7 h
              obtain ⟨x8, ex8⟩ := dw_eg (x2 + (1 : Int32))
              have h := dw_nmS ex8 h
              refine lv_iinc (v := x8) (lv' := [(3, .int x8), (0, .ref (dw_ad Γ 142)), (1, .int a1), (2, .int a2)]) hx hb dX10_rain_70 hl (k := 3) rfl (by rw [ex8]; rfl) (by decide) rfl (fun ls hl => ?_)
              refine lv_goto (tgt := 28) hx hb dX10_rain_73 (by decide) ?_
              obtain rfl := dw_s1 h
              exact ih28 x8 μ7 H locs ls Z (lv_sub hl [1, 2, 3, 0] rfl) hq28
            · have h := dw_ifF c5 h
              refine lv_iload_n hx hb dX10_rain_50 rfl (lv_at hl 1 rfl) ?_
              refine lv_iload_n hx hb dX10_rain_51 rfl (lv_at hl 3 rfl) ?_
              refine lv_icmp_ne (tgt := 59) hx hb dX10_rain_52 (by decide) (fun c9 => ?_) (fun c9 => ?_)
              · have h := dw_ifF c9 h
                refine lv_aload_n hx hb dX10_rain_59 rfl (lv_at hl 0 rfl) ?_
                refine dw_g10_0 (t := 143) C0 Z dw_kc142 tw_fX10_7 rfl dX10_rain_60 ?_
                refine lv_sipush (v := (180 : Int32)) hx hb dX10_rain_63 (by decide) ?_
                refine lv_iload_n hx hb dX10_rain_66 rfl (lv_at hl 3 rfl) ?_
                refine lv_iadd hx hb dX10_rain_67 ?_
                obtain ⟨g10, h⟩ := dw_gdS h
                refine dw_ald C0 Z dw_kc143 dw_lc143 g10 dX10_rain_68 ?_
                refine dw_ast C0 Z dw_hA dw_kc143 dw_lc143 g10 dX10_rain_69 (fun μ11 eμ11 H locs Z => ?_)
                have h := dw_nmS eμ11 h
                obtain ⟨x12, ex12⟩ := dw_eg (x2 + (1 : Int32))
                have h := dw_nmS ex12 h
                refine lv_iinc (v := x12) (lv' := [(3, .int x12), (0, .ref (dw_ad Γ 142)), (1, .int a1), (2, .int a2)]) hx hb dX10_rain_70 hl (k := 3) rfl (by rw [ex12]; rfl) (by decide) rfl (fun ls hl => ?_)
                refine lv_goto (tgt := 28) hx hb dX10_rain_73 (by decide) ?_
                obtain rfl := dw_s1 h
                exact ih28 x12 μ11 H locs ls Z (lv_sub hl [1, 2, 3, 0] rfl) hq28
              · have h := dw_ifT c9 h
                refine lv_iload_n hx hb dX10_rain_55 rfl (lv_at hl 2 rfl) ?_
                refine lv_goto (tgt := 69) hx hb dX10_rain_56 (by decide) ?_
                obtain ⟨g13, h⟩ := dw_gdS h
                refine dw_ast C0 Z dw_hA dw_kc143 dw_lc143 g13 dX10_rain_69 (fun μ14 eμ14 H locs Z => ?_)
                have h := dw_nmS eμ14 h
                obtain ⟨x15, ex15⟩ := dw_eg (x2 + (1 : Int32))
                have h := dw_nmS ex15 h
                refine lv_iinc (v := x15) (lv' := [(3, .int x15), (0, .ref (dw_ad Γ 142)), (1, .int a1), (2, .int a2)]) hx hb dX10_rain_70 hl (k := 3) rfl (by rw [ex15]; rfl) (by decide) rfl (fun ls hl => ?_)
                refine lv_goto (tgt := 28) hx hb dX10_rain_73 (by decide) ?_
                obtain rfl := dw_s1 h
                exact ih28 x15 μ14 H locs ls Z (lv_sub hl [1, 2, 3, 0] rfl) hq28
      exact L28 1000 (0 : Int32) μ H locs ls Z (lv_sub hl [1, 2, 3, 0] rfl) h
    · have h := dw_ifT c1 h
      refine lv_iconst (v := (-1 : Int32)) hx hb dX10_rain_24 (by decide) ?_
      obtain ⟨rfl, rfl⟩ := dw_s2 h
      exact dw_iret C0 Z hr hlk dX10_rain_25
  refine lv_icmp_eq (tgt := 13) hx hb dX10_rain_2 (by decide) (fun c17 => ?_) (fun c17 => ?_)
  · have h := dw_ifT c17 h
    exact J13 H locs ls Z (lv_sub hl [0, 1, 2] rfl) h
  · have h := dw_ifF c17 h
    refine lv_aload_n hx hb dX10_rain_5 rfl (lv_at hl 0 rfl) ?_
    refine lv_iload_n hx hb dX10_rain_6 rfl (lv_at hl 1 rfl) ?_
    refine dw_cVi C0 Z dw_hA (dw_lt dw_kc142 (by decide)) (dw_cz10 dw_kc142) rfl (As := [.int a1]) (rest := []) (kX10_isPlace l Γ hj μ a1 rfl) (dw_gV tw_lX10_33 tw_vX10_isPlace tw_eX10_isPlace tw_iX10 tw_kX10_isPlace) dw_hX10_isPlace ⟨Nat.le_of_ble_eq_true rfl, Nat.le_of_ble_eq_true rfl⟩ ⟨Nat.zero_le _, Nat.zero_le _⟩ hl.1 (Nat.le_of_ble_eq_true rfl) rfl dX10_rain_7 (fun H locs Z => ?_)
    refine lv_if_eq (tgt := 24) hx hb dX10_rain_10 (by decide) (fun c18 => ?_) (fun c18 => ?_)
    · have h := dw_ifT c18 h
      refine lv_iconst (v := (-1 : Int32)) hx hb dX10_rain_24 (by decide) ?_
      obtain ⟨rfl, rfl⟩ := dw_s2 h
      exact dw_iret C0 Z hr hlk dX10_rain_25
    · have h := dw_ifF c18 h
      exact J13 H locs ls Z (lv_sub hl [0, 1, 2] rfl) h

def sX10_fall_2  (x1 : Int32) (μ2 : dw_M) : Option ((Int32 × dw_M) ⊕ ((dw_M))) :=
  if (fX10_places μ2) ≤ x1 then (
  some (.inr μ2))
  else (
  dw_gd (dw_ok ((100 : Int32) + x1) 800) (
  dw_gd (dw_ok ((180 : Int32) + x1) 800) (
  dw_nm (dw_st μ2 143 ((100 : Int32) + x1).toNatClampNeg ((μ2.1 143 ((100 : Int32) + x1).toNatClampNeg) + (μ2.1 143 ((180 : Int32) + x1).toNatClampNeg))) (fun μ6 =>
  dw_nm (dw_st μ6 143 (8 : Int32).toNatClampNeg ((μ6.1 143 (8 : Int32).toNatClampNeg) + (μ6.1 143 ((180 : Int32) + x1).toNatClampNeg))) (fun μ7 =>
  dw_bd (fX10_soilOf μ7 x1 (2 : Int32)) (fun r9 =>
  dw_gd (dw_ok ((140 : Int32) + x1) 800) (
  dw_nm (r9 - (μ7.1 143 ((140 : Int32) + x1).toNatClampNeg)) (fun x11 =>
  dw_bd (fX10_soilOf μ7 x1 (0 : Int32)) (fun r13 =>
  dw_nm (fX10_lesser (fX10_lesser (μ7.1 143 ((100 : Int32) + x1).toNatClampNeg) r13) x11) (fun x14 =>
  if x14 ≤ 0 then (
  dw_nm (x1 + (1 : Int32)) (fun x16 =>
  some (.inl (x16, μ7))))
  else (
  dw_nm (dw_st μ7 143 ((100 : Int32) + x1).toNatClampNeg ((μ7.1 143 ((100 : Int32) + x1).toNatClampNeg) - x14)) (fun μ17 =>
  dw_nm (dw_st μ17 143 ((140 : Int32) + x1).toNatClampNeg ((μ17.1 143 ((140 : Int32) + x1).toNatClampNeg) + x14)) (fun μ18 =>
  dw_nm (x1 + (1 : Int32)) (fun x19 =>
  some (.inl (x19, μ18))))))))))))))))
def fX10_fall (μ : dw_M) : Option (dw_M) :=
  dw_bd (dw_wh (fun v => sX10_fall_2 v.1 v.2) 1000 ((0 : Int32), μ))
    (fun μ20 => some μ20)
set_option maxHeartbeats 4000000 in
set_option maxRecDepth 100000 in
theorem kX10_fall (l : Launch) (Γ : dw_G) (hj : dw_inj Γ) (μ : dw_M)  {ν : dw_M} (h : fX10_fall μ = some ν) : Met l yX10_fall (dw_ws yX10_fall cX10_fall 4 none) (dw_rm 1 22) (dw_P Γ ([.ref (dw_ad Γ 142)] : List Value) μ) (dw_Qv Γ ν) 0 0 (dw_A Γ) := by
  refine dw_met (own := RX10) rfl rfl (Nat.le_of_ble_eq_true rfl) hj ?_
  intro p e s m below meth c C0 hr hlk Z ls hl
  have hx := C0.1
  have hb := C0.2.1
  have hl : lv_has ls 4 [(0, .ref (dw_ad Γ 142))] := hl
  suffices key : ∀ (H : Heap) (locs : List Loc), dw_Z Γ (dw_A Γ) s.heap μ H locs → W p l e (dw_rm 1 22) s m ([.ref (dw_ad Γ 142)] : List Value).toArray below meth c H locs 0 0 (MQ below (dw_Qv Γ ν) ([.ref (dw_ad Γ 142)] : List Value).toArray s 0 0 (dw_A Γ)) (F0 m 0 ls []) from key _ _ Z
  clear Z
  intro H locs Z
  unfold fX10_fall at h
  refine lv_iconst (v := (0 : Int32)) hx hb dX10_fall_0 (by decide) ?_
  refine lv_istore_n (lv' := [(1, .int (0 : Int32)), (0, .ref (dw_ad Γ 142))]) hx hb dX10_fall_1 rfl hl (by decide) rfl (fun ls hl => ?_)
  obtain ⟨kc2, ekc2, h⟩ := dw_bdK h
  have E2 : ∀ (μ20 : dw_M) (H : Heap) (locs : List Loc) (ls : Array Slot), dw_Z Γ (dw_A Γ) s.heap μ20 H locs → lv_has ls 4 [] → kc2 μ20 = some ν → W p l e (dw_rm 1 22) s m ([.ref (dw_ad Γ 142)] : List Value).toArray below meth c H locs 0 0 (MQ below (dw_Qv Γ ν) ([.ref (dw_ad Γ 142)] : List Value).toArray s 0 0 (dw_A Γ)) (F0 m 130 ls []) := by
    intro μ20 H locs ls Z hl h
    rw [ekc2] at h
    dsimp only at h
    obtain rfl := dw_s1 h
    exact dw_vret C0 Z hr hlk dX10_fall_130
  have L2 : ∀ (n2 : Nat) (x1 : Int32) (μ2 : dw_M) (H : Heap) (locs : List Loc) (ls : Array Slot), dw_Z Γ (dw_A Γ) s.heap μ2 H locs → lv_has ls 4 [(0, .ref (dw_ad Γ 142)), (1, .int x1)] → dw_bd (dw_wh (fun v => sX10_fall_2 v.1 v.2) n2 (x1, μ2)) kc2 = some ν → W p l e (dw_rm 1 22) s m ([.ref (dw_ad Γ 142)] : List Value).toArray below meth c H locs 0 0 (MQ below (dw_Qv Γ ν) ([.ref (dw_ad Γ 142)] : List Value).toArray s 0 0 (dw_A Γ)) (F0 m 2 ls []) := by
    clear h
    intro n2
    induction n2 with
    | zero =>
      intro x1 μ2 H locs ls Z hl h
      exact (dw_wh0 h).elim
    | succ n2 ih2 =>
      intro x1 μ2 H locs ls Z hl h
      obtain ⟨q2, hs, hq2⟩ := dw_whB h
      have h : sX10_fall_2 x1 μ2 = some q2 := hs
      unfold sX10_fall_2 at h
      refine lv_iload_n hx hb dX10_fall_2 rfl (lv_at hl 1 rfl) ?_
      refine lv_aload_n hx hb dX10_fall_3 rfl (lv_at hl 0 rfl) ?_
      refine dw_cVi C0 Z dw_hA (dw_lt dw_kc142 (by decide)) (dw_cz10 dw_kc142) rfl (As := []) (rest := [.int x1]) (kX10_places l Γ hj μ2 rfl) (dw_gV tw_lX10_25 tw_vX10_places tw_eX10_places tw_iX10 tw_kX10_places) dw_hX10_places ⟨Nat.le_of_ble_eq_true rfl, Nat.le_of_ble_eq_true rfl⟩ ⟨Nat.zero_le _, Nat.zero_le _⟩ hl.1 (Nat.le_of_ble_eq_true rfl) rfl dX10_fall_4 (fun H locs Z => ?_)
      refine lv_icmp_ge (tgt := 130) hx hb dX10_fall_7 (by decide) (fun c3 => ?_) (fun c3 => ?_)
      · have h := dw_ifT c3 h
        obtain rfl := dw_s1 h
        exact E2  μ2 H locs ls Z (lv_sub hl [] rfl) hq2
      · have h := dw_ifF c3 h
        refine lv_aload_n hx hb dX10_fall_10 rfl (lv_at hl 0 rfl) ?_
        refine dw_g10_0 (t := 143) C0 Z dw_kc142 tw_fX10_7 rfl dX10_fall_11 ?_
        refine lv_bipush (v := (100 : Int32)) hx hb dX10_fall_14 (by decide) ?_
        refine lv_iload_n hx hb dX10_fall_16 rfl (lv_at hl 1 rfl) ?_
        refine lv_iadd hx hb dX10_fall_17 ?_
        refine lv_dup2_11 hx hb dX10_fall_18 rfl rfl ?_
        obtain ⟨g4, h⟩ := dw_gdS h
        refine dw_ald C0 Z dw_kc143 dw_lc143 g4 dX10_fall_19 ?_
        refine lv_aload_n hx hb dX10_fall_20 rfl (lv_at hl 0 rfl) ?_
        refine dw_g10_0 (t := 143) C0 Z dw_kc142 tw_fX10_7 rfl dX10_fall_21 ?_
        refine lv_sipush (v := (180 : Int32)) hx hb dX10_fall_24 (by decide) ?_
        refine lv_iload_n hx hb dX10_fall_27 rfl (lv_at hl 1 rfl) ?_
        refine lv_iadd hx hb dX10_fall_28 ?_
        obtain ⟨g5, h⟩ := dw_gdS h
        refine dw_ald C0 Z dw_kc143 dw_lc143 g5 dX10_fall_29 ?_
        refine lv_iadd hx hb dX10_fall_30 ?_
        refine dw_ast C0 Z dw_hA dw_kc143 dw_lc143 g4 dX10_fall_31 (fun μ6 eμ6 H locs Z => ?_)
        have h := dw_nmS eμ6 h
        refine lv_aload_n hx hb dX10_fall_32 rfl (lv_at hl 0 rfl) ?_
        refine dw_g10_0 (t := 143) C0 Z dw_kc142 tw_fX10_7 rfl dX10_fall_33 ?_
        refine lv_bipush (v := (8 : Int32)) hx hb dX10_fall_36 (by decide) ?_
        refine lv_dup2_11 hx hb dX10_fall_38 rfl rfl ?_
        refine dw_ald C0 Z dw_kc143 dw_lc143 (by decide) dX10_fall_39 ?_
        refine lv_aload_n hx hb dX10_fall_40 rfl (lv_at hl 0 rfl) ?_
        refine dw_g10_0 (t := 143) C0 Z dw_kc142 tw_fX10_7 rfl dX10_fall_41 ?_
        refine lv_sipush (v := (180 : Int32)) hx hb dX10_fall_44 (by decide) ?_
        refine lv_iload_n hx hb dX10_fall_47 rfl (lv_at hl 1 rfl) ?_
        refine lv_iadd hx hb dX10_fall_48 ?_
        refine dw_ald C0 Z dw_kc143 dw_lc143 g5 dX10_fall_49 ?_
        refine lv_iadd hx hb dX10_fall_50 ?_
        refine dw_ast C0 Z dw_hA dw_kc143 dw_lc143 (by decide) dX10_fall_51 (fun μ7 eμ7 H locs Z => ?_)
        have h := dw_nmS eμ7 h
        refine lv_aload_n hx hb dX10_fall_52 rfl (lv_at hl 0 rfl) ?_
        refine lv_iload_n hx hb dX10_fall_53 rfl (lv_at hl 1 rfl) ?_
        refine lv_iconst (v := (2 : Int32)) hx hb dX10_fall_54 (by decide) ?_
        obtain ⟨r9, hc8, h⟩ := dw_bdS h
        refine dw_cVi C0 Z dw_hA (dw_lt dw_kc142 (by decide)) (dw_cz10 dw_kc142) rfl (As := [.int x1, .int (2 : Int32)]) (rest := []) (kX10_soilOf l Γ hj μ7 x1 (2 : Int32) hc8) (dw_gV tw_lX10_86 tw_vX10_soilOf tw_eX10_soilOf tw_iX10 tw_kX10_soilOf) dw_hX10_soilOf ⟨Nat.le_of_ble_eq_true rfl, Nat.le_of_ble_eq_true rfl⟩ ⟨Nat.zero_le _, Nat.zero_le _⟩ hl.1 (Nat.le_of_ble_eq_true rfl) rfl dX10_fall_55 (fun H locs Z => ?_)
        refine lv_aload_n hx hb dX10_fall_58 rfl (lv_at hl 0 rfl) ?_
        refine dw_g10_0 (t := 143) C0 Z dw_kc142 tw_fX10_7 rfl dX10_fall_59 ?_
        refine lv_sipush (v := (140 : Int32)) hx hb dX10_fall_62 (by decide) ?_
        refine lv_iload_n hx hb dX10_fall_65 rfl (lv_at hl 1 rfl) ?_
        refine lv_iadd hx hb dX10_fall_66 ?_
        obtain ⟨g10, h⟩ := dw_gdS h
        refine dw_ald C0 Z dw_kc143 dw_lc143 g10 dX10_fall_67 ?_
        refine lv_isub hx hb dX10_fall_68 ?_
        refine lv_topi (fun x11 ex11 => ?_)
        have h := dw_nmS ex11 h
        refine lv_istore_n (lv' := [(2, .int x11), (0, .ref (dw_ad Γ 142)), (1, .int x1)]) hx hb dX10_fall_69 rfl hl (by decide) rfl (fun ls hl => ?_)
        refine lv_aload_n hx hb dX10_fall_70 rfl (lv_at hl 1 rfl) ?_
        refine dw_g10_0 (t := 143) C0 Z dw_kc142 tw_fX10_7 rfl dX10_fall_71 ?_
        refine lv_bipush (v := (100 : Int32)) hx hb dX10_fall_74 (by decide) ?_
        refine lv_iload_n hx hb dX10_fall_76 rfl (lv_at hl 2 rfl) ?_
        refine lv_iadd hx hb dX10_fall_77 ?_
        refine dw_ald C0 Z dw_kc143 dw_lc143 g4 dX10_fall_78 ?_
        refine lv_aload_n hx hb dX10_fall_79 rfl (lv_at hl 1 rfl) ?_
        refine lv_iload_n hx hb dX10_fall_80 rfl (lv_at hl 2 rfl) ?_
        refine lv_iconst (v := (0 : Int32)) hx hb dX10_fall_81 (by decide) ?_
        obtain ⟨r13, hc12, h⟩ := dw_bdS h
        refine dw_cVi C0 Z dw_hA (dw_lt dw_kc142 (by decide)) (dw_cz10 dw_kc142) rfl (As := [.int x1, .int (0 : Int32)]) (rest := [.int (μ7.1 143 ((100 : Int32) + x1).toNatClampNeg)]) (kX10_soilOf l Γ hj μ7 x1 (0 : Int32) hc12) (dw_gV tw_lX10_86 tw_vX10_soilOf tw_eX10_soilOf tw_iX10 tw_kX10_soilOf) dw_hX10_soilOf ⟨Nat.le_of_ble_eq_true rfl, Nat.le_of_ble_eq_true rfl⟩ ⟨Nat.zero_le _, Nat.zero_le _⟩ hl.1 (Nat.le_of_ble_eq_true rfl) rfl dX10_fall_82 (fun H locs Z => ?_)
        refine dw_cSi C0 Z dw_hA (As := [.int (μ7.1 143 ((100 : Int32) + x1).toNatClampNeg), .int r13]) (rest := []) (kX10_lesser l Γ hj μ7 (μ7.1 143 ((100 : Int32) + x1).toNatClampNeg) r13 rfl) (dw_gS tw_lX10_77 tw_sX10_lesser tw_iX10 tw_kX10_lesser) dw_hX10_lesser ⟨Nat.le_of_ble_eq_true rfl, Nat.le_of_ble_eq_true rfl⟩ ⟨Nat.zero_le _, Nat.zero_le _⟩ hl.1 (Nat.le_of_ble_eq_true rfl) rfl dX10_fall_85 (fun H locs Z => ?_)
        refine lv_iload_n hx hb dX10_fall_88 rfl (lv_at hl 0 rfl) ?_
        refine dw_cSi C0 Z dw_hA (As := [.int (fX10_lesser (μ7.1 143 ((100 : Int32) + x1).toNatClampNeg) r13), .int x11]) (rest := []) (kX10_lesser l Γ hj μ7 (fX10_lesser (μ7.1 143 ((100 : Int32) + x1).toNatClampNeg) r13) x11 rfl) (dw_gS tw_lX10_77 tw_sX10_lesser tw_iX10 tw_kX10_lesser) dw_hX10_lesser ⟨Nat.le_of_ble_eq_true rfl, Nat.le_of_ble_eq_true rfl⟩ ⟨Nat.zero_le _, Nat.zero_le _⟩ hl.1 (Nat.le_of_ble_eq_true rfl) rfl dX10_fall_89 (fun H locs Z => ?_)
        refine lv_topi (fun x14 ex14 => ?_)
        have h := dw_nmS ex14 h
        refine lv_istore_n (lv' := [(3, .int x14), (2, .int x11), (0, .ref (dw_ad Γ 142)), (1, .int x1)]) hx hb dX10_fall_92 rfl hl (by decide) rfl (fun ls hl => ?_)
        refine lv_iload_n hx hb dX10_fall_93 rfl (lv_at hl 0 rfl) ?_
        refine lv_if_le (tgt := 124) hx hb dX10_fall_94 (by decide) (fun c15 => ?_) (fun c15 => ?_)
        · have h := dw_ifT c15 h
          obtain ⟨x16, ex16⟩ := dw_eg (x1 + (1 : Int32))
          have h := dw_nmS ex16 h
          refine lv_iinc (v := x16) (lv' := [(1, .int x16), (3, .int x14), (2, .int x11), (0, .ref (dw_ad Γ 142))]) hx hb dX10_fall_124 hl (k := 3) rfl (by rw [ex16]; rfl) (by decide) rfl (fun ls hl => ?_)
          refine lv_goto (tgt := 2) hx hb dX10_fall_127 (by decide) ?_
          obtain rfl := dw_s1 h
          exact ih2 x16 μ7 H locs ls Z (lv_sub hl [3, 0] rfl) hq2
        · have h := dw_ifF c15 h
          refine lv_aload_n hx hb dX10_fall_97 rfl (lv_at hl 2 rfl) ?_
          refine dw_g10_0 (t := 143) C0 Z dw_kc142 tw_fX10_7 rfl dX10_fall_98 ?_
          refine lv_bipush (v := (100 : Int32)) hx hb dX10_fall_101 (by decide) ?_
          refine lv_iload_n hx hb dX10_fall_103 rfl (lv_at hl 3 rfl) ?_
          refine lv_iadd hx hb dX10_fall_104 ?_
          refine lv_dup2_11 hx hb dX10_fall_105 rfl rfl ?_
          refine dw_ald C0 Z dw_kc143 dw_lc143 g4 dX10_fall_106 ?_
          refine lv_iload_n hx hb dX10_fall_107 rfl (lv_at hl 0 rfl) ?_
          refine lv_isub hx hb dX10_fall_108 ?_
          refine dw_ast C0 Z dw_hA dw_kc143 dw_lc143 g4 dX10_fall_109 (fun μ17 eμ17 H locs Z => ?_)
          have h := dw_nmS eμ17 h
          refine lv_aload_n hx hb dX10_fall_110 rfl (lv_at hl 2 rfl) ?_
          refine dw_g10_0 (t := 143) C0 Z dw_kc142 tw_fX10_7 rfl dX10_fall_111 ?_
          refine lv_sipush (v := (140 : Int32)) hx hb dX10_fall_114 (by decide) ?_
          refine lv_iload_n hx hb dX10_fall_117 rfl (lv_at hl 3 rfl) ?_
          refine lv_iadd hx hb dX10_fall_118 ?_
          refine lv_dup2_11 hx hb dX10_fall_119 rfl rfl ?_
          refine dw_ald C0 Z dw_kc143 dw_lc143 g10 dX10_fall_120 ?_
          refine lv_iload_n hx hb dX10_fall_121 rfl (lv_at hl 0 rfl) ?_
          refine lv_iadd hx hb dX10_fall_122 ?_
          refine dw_ast C0 Z dw_hA dw_kc143 dw_lc143 g10 dX10_fall_123 (fun μ18 eμ18 H locs Z => ?_)
          have h := dw_nmS eμ18 h
          obtain ⟨x19, ex19⟩ := dw_eg (x1 + (1 : Int32))
          have h := dw_nmS ex19 h
          refine lv_iinc (v := x19) (lv' := [(1, .int x19), (3, .int x14), (2, .int x11), (0, .ref (dw_ad Γ 142))]) hx hb dX10_fall_124 hl (k := 3) rfl (by rw [ex19]; rfl) (by decide) rfl (fun ls hl => ?_)
          refine lv_goto (tgt := 2) hx hb dX10_fall_127 (by decide) ?_
          obtain rfl := dw_s1 h
          exact ih2 x19 μ18 H locs ls Z (lv_sub hl [3, 0] rfl) hq2
  exact L2 1000 (0 : Int32) μ H locs ls Z (lv_sub hl [1, 0] rfl) h

def fX10_isLateral (μ : dw_M) (a1 : Int32) : Option (Int32) :=
  dw_bd (fX10_pipeOf μ a1 (0 : Int32)) (fun r2 =>
  if (dw_re r2 (2 : Int32)) = 0 then (
  some (1 : Int32))
  else (
  some (0 : Int32)))
set_option maxHeartbeats 4000000 in
set_option maxRecDepth 100000 in
theorem kX10_isLateral (l : Launch) (Γ : dw_G) (hj : dw_inj Γ) (μ : dw_M) (a1 : Int32) {r : Int32} (h : fX10_isLateral μ a1 = some r) : Met l yX10_isLateral (dw_ws yX10_isLateral cX10_isLateral 2 (some .boolean)) (dw_rm 1 22) (dw_P Γ ([.ref (dw_ad Γ 142), .int a1] : List Value) μ) (dw_Qi Γ r μ) 0 0 (dw_A Γ) := by
  refine dw_met (own := RX10) rfl rfl (Nat.le_of_ble_eq_true rfl) hj ?_
  intro p e s m below meth c C0 hr hlk Z ls hl
  have hx := C0.1
  have hb := C0.2.1
  have hl : lv_has ls 2 [(0, .ref (dw_ad Γ 142)), (1, .int a1)] := hl
  suffices key : ∀ (H : Heap) (locs : List Loc), dw_Z Γ (dw_A Γ) s.heap μ H locs → W p l e (dw_rm 1 22) s m ([.ref (dw_ad Γ 142), .int a1] : List Value).toArray below meth c H locs 0 0 (MQ below (dw_Qi Γ r μ) ([.ref (dw_ad Γ 142), .int a1] : List Value).toArray s 0 0 (dw_A Γ)) (F0 m 0 ls []) from key _ _ Z
  clear Z
  intro H locs Z
  unfold fX10_isLateral at h
  refine lv_aload_n hx hb dX10_isLateral_0 rfl (lv_at hl 0 rfl) ?_
  refine lv_iload_n hx hb dX10_isLateral_1 rfl (lv_at hl 1 rfl) ?_
  refine lv_iconst (v := (0 : Int32)) hx hb dX10_isLateral_2 (by decide) ?_
  obtain ⟨r2, hc1, h⟩ := dw_bdS h
  refine dw_cVi C0 Z dw_hA (dw_lt dw_kc142 (by decide)) (dw_cz10 dw_kc142) rfl (As := [.int a1, .int (0 : Int32)]) (rest := []) (kX10_pipeOf l Γ hj μ a1 (0 : Int32) hc1) (dw_gV tw_lX10_55 tw_vX10_pipeOf tw_eX10_pipeOf tw_iX10 tw_kX10_pipeOf) dw_hX10_pipeOf ⟨Nat.le_of_ble_eq_true rfl, Nat.le_of_ble_eq_true rfl⟩ ⟨Nat.zero_le _, Nat.zero_le _⟩ hl.1 (Nat.le_of_ble_eq_true rfl) rfl dX10_isLateral_3 (fun H locs Z => ?_)
  refine lv_iconst (v := (2 : Int32)) hx hb dX10_isLateral_6 (by decide) ?_
  refine lv_irem hx hb dX10_isLateral_7 (by decide) ?_
  refine W.eq (g2 := F0 m 8 ls [.int (dw_re r2 (2 : Int32))]) rfl ?_
  refine lv_if_ne (tgt := 15) hx hb dX10_isLateral_8 (by decide) (fun c3 => ?_) (fun c3 => ?_)
  · have h := dw_ifF c3 h
    refine lv_iconst (v := (0 : Int32)) hx hb dX10_isLateral_15 (by decide) ?_
    obtain rfl := dw_s1 h
    exact dw_zret C0 Z hr hlk rfl dX10_isLateral_16
  · have h := dw_ifT c3 h
    refine lv_iconst (v := (1 : Int32)) hx hb dX10_isLateral_11 (by decide) ?_
    refine lv_goto (tgt := 16) hx hb dX10_isLateral_12 (by decide) ?_
    obtain rfl := dw_s1 h
    exact dw_zret C0 Z hr hlk rfl dX10_isLateral_16

def sX10_seep_12 (x1 : Int32) (x4 : Int32) (μ5 : dw_M) : Option ((Int32 × dw_M) ⊕ ((dw_M))) :=
  if (μ5.1 143 (13 : Int32).toNatClampNeg) ≤ x4 then (
  some (.inr μ5))
  else (
  dw_bd (fX10_pipeOf μ5 x4 (0 : Int32)) (fun r8 =>
  dw_jm (fun (x9 : Int32) =>
  dw_bd (fX10_isLateral μ5 x4) (fun r11 =>
  if r11 = 0 then (
  dw_nm (x4 + (1 : Int32)) (fun x13 =>
  some (.inl (x13, μ5))))
  else (
  dw_bd (fX10_stepOf μ5 x4 x1) (fun r15 =>
  if r15 < 0 then (
  dw_nm (x4 + (1 : Int32)) (fun x17 =>
  some (.inl (x17, μ5))))
  else (
  dw_bd (fX10_pipeOf μ5 x4 (8 : Int32)) (fun r19 =>
  if r19 = 0 then (
  if x9 = 0 then (
  dw_gd (dw_ok ((140 : Int32) + x1) 800) (
  dw_bd (fX10_soilOf μ5 x1 (1 : Int32)) (fun r26 =>
  dw_bd (fX10_holds μ5 x4) (fun r28 =>
  dw_bd (fX10_pipeOf μ5 x4 (9 : Int32)) (fun r30 =>
  dw_nm (fX10_lesser (((μ5.1 143 ((140 : Int32) + x1).toNatClampNeg) * r26) / (100 : Int32)) (r28 - r30)) (fun x31 =>
  dw_nm (dw_st μ5 143 ((140 : Int32) + x1).toNatClampNeg ((μ5.1 143 ((140 : Int32) + x1).toNatClampNeg) - x31)) (fun μ32 =>
  dw_bd (fX10_pipeOf μ32 x4 (9 : Int32)) (fun r34 =>
  dw_bd (fX10_setPipe μ32 x4 (9 : Int32) (r34 + x31)) (fun μ36 =>
  dw_nm (x4 + (1 : Int32)) (fun x37 =>
  some (.inl (x37, μ36))))))))))))
  else (
  dw_nm (x4 + (1 : Int32)) (fun x23 =>
  some (.inl (x23, μ5)))))
  else (
  dw_nm (x4 + (1 : Int32)) (fun x21 =>
  some (.inl (x21, μ5)))))))))) (fun k48 =>
  dw_jm (k48 (0 : Int32)) (fun k47 =>
  if r8 = (2 : Int32) then (
  dw_bd (fX10_pipeOf μ5 x4 (6 : Int32)) (fun r40 =>
  if r40 = 0 then (
  k48 (1 : Int32))
  else (
  k47)))
  else (
  k47)))))
def sX10_seep_2  (x1 : Int32) (μ2 : dw_M) : Option ((Int32 × dw_M) ⊕ ((dw_M))) :=
  if (fX10_places μ2) ≤ x1 then (
  some (.inr μ2))
  else (
  dw_bd (dw_wh (fun v => sX10_seep_12 x1 v.1 v.2) 1000 ((0 : Int32), μ2))
    (fun μ42 => dw_nm (x1 + (1 : Int32)) (fun x43 =>
  some (.inl (x43, μ42)))))
def fX10_seep (μ : dw_M) : Option (dw_M) :=
  dw_bd (dw_wh (fun v => sX10_seep_2 v.1 v.2) 1000 ((0 : Int32), μ))
    (fun μ44 => some μ44)
set_option maxHeartbeats 4000000 in
set_option maxRecDepth 100000 in
theorem kX10_seep (l : Launch) (Γ : dw_G) (hj : dw_inj Γ) (μ : dw_M)  {ν : dw_M} (h : fX10_seep μ = some ν) : Met l yX10_seep (dw_ws yX10_seep cX10_seep 5 none) (dw_rm 4 91) (dw_P Γ ([.ref (dw_ad Γ 142)] : List Value) μ) (dw_Qv Γ ν) 0 0 (dw_A Γ) := by
  refine dw_met (own := RX10) rfl rfl (Nat.le_of_ble_eq_true rfl) hj ?_
  intro p e s m below meth c C0 hr hlk Z ls hl
  have hx := C0.1
  have hb := C0.2.1
  have hl : lv_has ls 5 [(0, .ref (dw_ad Γ 142))] := hl
  suffices key : ∀ (H : Heap) (locs : List Loc), dw_Z Γ (dw_A Γ) s.heap μ H locs → W p l e (dw_rm 4 91) s m ([.ref (dw_ad Γ 142)] : List Value).toArray below meth c H locs 0 0 (MQ below (dw_Qv Γ ν) ([.ref (dw_ad Γ 142)] : List Value).toArray s 0 0 (dw_A Γ)) (F0 m 0 ls []) from key _ _ Z
  clear Z
  intro H locs Z
  unfold fX10_seep at h
  refine lv_iconst (v := (0 : Int32)) hx hb dX10_seep_0 (by decide) ?_
  refine lv_istore_n (lv' := [(1, .int (0 : Int32)), (0, .ref (dw_ad Γ 142))]) hx hb dX10_seep_1 rfl hl (by decide) rfl (fun ls hl => ?_)
  obtain ⟨kc2, ekc2, h⟩ := dw_bdK h
  have E2 : ∀ (μ44 : dw_M) (H : Heap) (locs : List Loc) (ls : Array Slot), dw_Z Γ (dw_A Γ) s.heap μ44 H locs → lv_has ls 5 [] → kc2 μ44 = some ν → W p l e (dw_rm 4 91) s m ([.ref (dw_ad Γ 142)] : List Value).toArray below meth c H locs 0 0 (MQ below (dw_Qv Γ ν) ([.ref (dw_ad Γ 142)] : List Value).toArray s 0 0 (dw_A Γ)) (F0 m 162 ls []) := by
    intro μ44 H locs ls Z hl h
    rw [ekc2] at h
    dsimp only at h
    obtain rfl := dw_s1 h
    exact dw_vret C0 Z hr hlk dX10_seep_162
  have L2 : ∀ (n2 : Nat) (x1 : Int32) (μ2 : dw_M) (H : Heap) (locs : List Loc) (ls : Array Slot), dw_Z Γ (dw_A Γ) s.heap μ2 H locs → lv_has ls 5 [(0, .ref (dw_ad Γ 142)), (1, .int x1)] → dw_bd (dw_wh (fun v => sX10_seep_2 v.1 v.2) n2 (x1, μ2)) kc2 = some ν → W p l e (dw_rm 4 91) s m ([.ref (dw_ad Γ 142)] : List Value).toArray below meth c H locs 0 0 (MQ below (dw_Qv Γ ν) ([.ref (dw_ad Γ 142)] : List Value).toArray s 0 0 (dw_A Γ)) (F0 m 2 ls []) := by
    clear h
    intro n2
    induction n2 with
    | zero =>
      intro x1 μ2 H locs ls Z hl h
      exact (dw_wh0 h).elim
    | succ n2 ih2 =>
      intro x1 μ2 H locs ls Z hl h
      obtain ⟨q2, hs, hq2⟩ := dw_whB h
      have h : sX10_seep_2 x1 μ2 = some q2 := hs
      unfold sX10_seep_2 at h
      refine lv_iload_n hx hb dX10_seep_2 rfl (lv_at hl 1 rfl) ?_
      refine lv_aload_n hx hb dX10_seep_3 rfl (lv_at hl 0 rfl) ?_
      refine dw_cVi C0 Z dw_hA (dw_lt dw_kc142 (by decide)) (dw_cz10 dw_kc142) rfl (As := []) (rest := [.int x1]) (kX10_places l Γ hj μ2 rfl) (dw_gV tw_lX10_25 tw_vX10_places tw_eX10_places tw_iX10 tw_kX10_places) dw_hX10_places ⟨Nat.le_of_ble_eq_true rfl, Nat.le_of_ble_eq_true rfl⟩ ⟨Nat.zero_le _, Nat.zero_le _⟩ hl.1 (Nat.le_of_ble_eq_true rfl) rfl dX10_seep_4 (fun H locs Z => ?_)
      refine lv_icmp_ge (tgt := 162) hx hb dX10_seep_7 (by decide) (fun c3 => ?_) (fun c3 => ?_)
      · have h := dw_ifT c3 h
        obtain rfl := dw_s1 h
        exact E2  μ2 H locs ls Z (lv_sub hl [] rfl) hq2
      · have h := dw_ifF c3 h
        refine lv_iconst (v := (0 : Int32)) hx hb dX10_seep_10 (by decide) ?_
        refine lv_istore_n (lv' := [(2, .int (0 : Int32)), (0, .ref (dw_ad Γ 142)), (1, .int x1)]) hx hb dX10_seep_11 rfl hl (by decide) rfl (fun ls hl => ?_)
        obtain ⟨kc12, ekc12, h⟩ := dw_bdK h
        have E12 : ∀ (μ42 : dw_M) (H : Heap) (locs : List Loc) (ls : Array Slot), dw_Z Γ (dw_A Γ) s.heap μ42 H locs → lv_has ls 5 [(0, .ref (dw_ad Γ 142)), (1, .int x1)] → kc12 μ42 = some q2 → W p l e (dw_rm 4 91) s m ([.ref (dw_ad Γ 142)] : List Value).toArray below meth c H locs 0 0 (MQ below (dw_Qv Γ ν) ([.ref (dw_ad Γ 142)] : List Value).toArray s 0 0 (dw_A Γ)) (F0 m 156 ls []) := by
          intro μ42 H locs ls Z hl h
          rw [ekc12] at h
          dsimp only at h
          obtain ⟨x43, ex43⟩ := dw_eg (x1 + (1 : Int32))
          have h := dw_nmS ex43 h
          refine lv_iinc (v := x43) (lv' := [(1, .int x43), (0, .ref (dw_ad Γ 142))]) hx hb dX10_seep_156 hl (k := 1) rfl (by rw [ex43]; rfl) (by decide) rfl (fun ls hl => ?_)
          refine lv_goto (tgt := 2) hx hb dX10_seep_159 (by decide) ?_
          obtain rfl := dw_s1 h
          exact ih2 x43 μ42 H locs ls Z (lv_sub hl [1, 0] rfl) hq2
        have L12 : ∀ (n12 : Nat) (x4 : Int32) (μ5 : dw_M) (H : Heap) (locs : List Loc) (ls : Array Slot), dw_Z Γ (dw_A Γ) s.heap μ5 H locs → lv_has ls 5 [(0, .ref (dw_ad Γ 142)), (1, .int x1), (2, .int x4)] → dw_bd (dw_wh (fun v => sX10_seep_12 x1 v.1 v.2) n12 (x4, μ5)) kc12 = some q2 → W p l e (dw_rm 4 91) s m ([.ref (dw_ad Γ 142)] : List Value).toArray below meth c H locs 0 0 (MQ below (dw_Qv Γ ν) ([.ref (dw_ad Γ 142)] : List Value).toArray s 0 0 (dw_A Γ)) (F0 m 12 ls []) := by
          clear h
          intro n12
          induction n12 with
          | zero =>
            intro x4 μ5 H locs ls Z hl h
            exact (dw_wh0 h).elim
          | succ n12 ih12 =>
            intro x4 μ5 H locs ls Z hl h
            obtain ⟨q12, hs, hq12⟩ := dw_whB h
            have h : sX10_seep_12 x1 x4 μ5 = some q12 := hs
            unfold sX10_seep_12 at h
            refine lv_iload_n hx hb dX10_seep_12 rfl (lv_at hl 2 rfl) ?_
            refine lv_aload_n hx hb dX10_seep_13 rfl (lv_at hl 0 rfl) ?_
            refine dw_g10_0 (t := 143) C0 Z dw_kc142 tw_fX10_7 rfl dX10_seep_14 ?_
            refine lv_bipush (v := (13 : Int32)) hx hb dX10_seep_17 (by decide) ?_
            refine dw_ald C0 Z dw_kc143 dw_lc143 (by decide) dX10_seep_19 ?_
            refine lv_icmp_ge (tgt := 156) hx hb dX10_seep_20 (by decide) (fun c6 => ?_) (fun c6 => ?_)
            · have h := dw_ifT c6 h
              obtain rfl := dw_s1 h
              exact E12  μ5 H locs ls Z (lv_sub hl [0, 1] rfl) hq12
            · have h := dw_ifF c6 h
              refine lv_aload_n hx hb dX10_seep_23 rfl (lv_at hl 0 rfl) ?_
              refine lv_iload_n hx hb dX10_seep_24 rfl (lv_at hl 2 rfl) ?_
              refine lv_iconst (v := (0 : Int32)) hx hb dX10_seep_25 (by decide) ?_
              obtain ⟨r8, hc7, h⟩ := dw_bdS h
              refine dw_cVi C0 Z dw_hA (dw_lt dw_kc142 (by decide)) (dw_cz10 dw_kc142) rfl (As := [.int x4, .int (0 : Int32)]) (rest := []) (kX10_pipeOf l Γ hj μ5 x4 (0 : Int32) hc7) (dw_gV tw_lX10_55 tw_vX10_pipeOf tw_eX10_pipeOf tw_iX10 tw_kX10_pipeOf) dw_hX10_pipeOf ⟨Nat.le_of_ble_eq_true rfl, Nat.le_of_ble_eq_true rfl⟩ ⟨Nat.zero_le _, Nat.zero_le _⟩ hl.1 (Nat.le_of_ble_eq_true rfl) rfl dX10_seep_26 (fun H locs Z => ?_)
              refine lv_iconst (v := (2 : Int32)) hx hb dX10_seep_29 (by decide) ?_
              obtain ⟨k48, ek48, h⟩ := dw_jnS h
              have J48 : ∀ (x9 : Int32) (H : Heap) (locs : List Loc) (ls : Array Slot), dw_Z Γ (dw_A Γ) s.heap μ5 H locs → lv_has ls 5 [(0, .ref (dw_ad Γ 142)), (1, .int x1), (2, .int x4)] → k48 x9 = some q12 → W p l e (dw_rm 4 91) s m ([.ref (dw_ad Γ 142)] : List Value).toArray below meth c H locs 0 0 (MQ below (dw_Qv Γ ν) ([.ref (dw_ad Γ 142)] : List Value).toArray s 0 0 (dw_A Γ)) (F0 m 48 ls [.int x9]) := by
                clear h
                intro x9 H locs ls Z hl h
                rw [ek48] at h
                dsimp only at h
                refine lv_istore_n (lv' := [(3, .int x9), (0, .ref (dw_ad Γ 142)), (1, .int x1), (2, .int x4)]) hx hb dX10_seep_48 rfl hl (by decide) rfl (fun ls hl => ?_)
                refine lv_aload_n hx hb dX10_seep_49 rfl (lv_at hl 1 rfl) ?_
                refine lv_iload_n hx hb dX10_seep_50 rfl (lv_at hl 3 rfl) ?_
                obtain ⟨r11, hc10, h⟩ := dw_bdS h
                refine dw_cVi C0 Z dw_hA (dw_lt dw_kc142 (by decide)) (dw_cz10 dw_kc142) rfl (As := [.int x4]) (rest := []) (kX10_isLateral l Γ hj μ5 x4 hc10) (dw_gV tw_lX10_89 tw_vX10_isLateral tw_eX10_isLateral tw_iX10 tw_kX10_isLateral) dw_hX10_isLateral ⟨Nat.le_of_ble_eq_true rfl, Nat.le_of_ble_eq_true rfl⟩ ⟨Nat.zero_le _, Nat.zero_le _⟩ hl.1 (Nat.le_of_ble_eq_true rfl) rfl dX10_seep_51 (fun H locs Z => ?_)
                refine lv_if_eq (tgt := 150) hx hb dX10_seep_54 (by decide) (fun c12 => ?_) (fun c12 => ?_)
                · have h := dw_ifT c12 h
                  obtain ⟨x13, ex13⟩ := dw_eg (x4 + (1 : Int32))
                  have h := dw_nmS ex13 h
                  refine lv_iinc (v := x13) (lv' := [(2, .int x13), (3, .int x9), (0, .ref (dw_ad Γ 142)), (1, .int x1)]) hx hb dX10_seep_150 hl (k := 3) rfl (by rw [ex13]; rfl) (by decide) rfl (fun ls hl => ?_)
                  refine lv_goto (tgt := 12) hx hb dX10_seep_153 (by decide) ?_
                  obtain rfl := dw_s1 h
                  exact ih12 x13 μ5 H locs ls Z (lv_sub hl [2, 3, 0] rfl) hq12
                · have h := dw_ifF c12 h
                  refine lv_aload_n hx hb dX10_seep_57 rfl (lv_at hl 1 rfl) ?_
                  refine lv_iload_n hx hb dX10_seep_58 rfl (lv_at hl 3 rfl) ?_
                  refine lv_iload_n hx hb dX10_seep_59 rfl (lv_at hl 2 rfl) ?_
                  obtain ⟨r15, hc14, h⟩ := dw_bdS h
                  refine dw_cVi C0 Z dw_hA (dw_lt dw_kc142 (by decide)) (dw_cz10 dw_kc142) rfl (As := [.int x4, .int x1]) (rest := []) (kX10_stepOf l Γ hj μ5 x4 x1 hc14) (dw_gV tw_lX10_65 tw_vX10_stepOf tw_eX10_stepOf tw_iX10 tw_kX10_stepOf) dw_hX10_stepOf ⟨Nat.le_of_ble_eq_true rfl, Nat.le_of_ble_eq_true rfl⟩ ⟨Nat.zero_le _, Nat.zero_le _⟩ hl.1 (Nat.le_of_ble_eq_true rfl) rfl dX10_seep_60 (fun H locs Z => ?_)
                  refine lv_if_lt (tgt := 150) hx hb dX10_seep_63 (by decide) (fun c16 => ?_) (fun c16 => ?_)
                  · have h := dw_ifT c16 h
                    obtain ⟨x17, ex17⟩ := dw_eg (x4 + (1 : Int32))
                    have h := dw_nmS ex17 h
                    refine lv_iinc (v := x17) (lv' := [(2, .int x17), (3, .int x9), (0, .ref (dw_ad Γ 142)), (1, .int x1)]) hx hb dX10_seep_150 hl (k := 3) rfl (by rw [ex17]; rfl) (by decide) rfl (fun ls hl => ?_)
                    refine lv_goto (tgt := 12) hx hb dX10_seep_153 (by decide) ?_
                    obtain rfl := dw_s1 h
                    exact ih12 x17 μ5 H locs ls Z (lv_sub hl [2, 3, 0] rfl) hq12
                  · have h := dw_ifF c16 h
                    refine lv_aload_n hx hb dX10_seep_66 rfl (lv_at hl 1 rfl) ?_
                    refine lv_iload_n hx hb dX10_seep_67 rfl (lv_at hl 3 rfl) ?_
                    refine lv_bipush (v := (8 : Int32)) hx hb dX10_seep_68 (by decide) ?_
                    obtain ⟨r19, hc18, h⟩ := dw_bdS h
                    refine dw_cVi C0 Z dw_hA (dw_lt dw_kc142 (by decide)) (dw_cz10 dw_kc142) rfl (As := [.int x4, .int (8 : Int32)]) (rest := []) (kX10_pipeOf l Γ hj μ5 x4 (8 : Int32) hc18) (dw_gV tw_lX10_55 tw_vX10_pipeOf tw_eX10_pipeOf tw_iX10 tw_kX10_pipeOf) dw_hX10_pipeOf ⟨Nat.le_of_ble_eq_true rfl, Nat.le_of_ble_eq_true rfl⟩ ⟨Nat.zero_le _, Nat.zero_le _⟩ hl.1 (Nat.le_of_ble_eq_true rfl) rfl dX10_seep_70 (fun H locs Z => ?_)
                    refine lv_if_ne (tgt := 150) hx hb dX10_seep_73 (by decide) (fun c20 => ?_) (fun c20 => ?_)
                    · have h := dw_ifF c20 h
                      obtain ⟨x21, ex21⟩ := dw_eg (x4 + (1 : Int32))
                      have h := dw_nmS ex21 h
                      refine lv_iinc (v := x21) (lv' := [(2, .int x21), (3, .int x9), (0, .ref (dw_ad Γ 142)), (1, .int x1)]) hx hb dX10_seep_150 hl (k := 3) rfl (by rw [ex21]; rfl) (by decide) rfl (fun ls hl => ?_)
                      refine lv_goto (tgt := 12) hx hb dX10_seep_153 (by decide) ?_
                      obtain rfl := dw_s1 h
                      exact ih12 x21 μ5 H locs ls Z (lv_sub hl [2, 3, 0] rfl) hq12
                    · have h := dw_ifT c20 h
                      refine lv_iload_n hx hb dX10_seep_76 rfl (lv_at hl 0 rfl) ?_
                      refine lv_if_ne (tgt := 150) hx hb dX10_seep_77 (by decide) (fun c22 => ?_) (fun c22 => ?_)
                      · have h := dw_ifF c22 h
                        obtain ⟨x23, ex23⟩ := dw_eg (x4 + (1 : Int32))
                        have h := dw_nmS ex23 h
                        refine lv_iinc (v := x23) (lv' := [(2, .int x23), (3, .int x9), (0, .ref (dw_ad Γ 142)), (1, .int x1)]) hx hb dX10_seep_150 hl (k := 3) rfl (by rw [ex23]; rfl) (by decide) rfl (fun ls hl => ?_)
                        refine lv_goto (tgt := 12) hx hb dX10_seep_153 (by decide) ?_
                        obtain rfl := dw_s1 h
                        exact ih12 x23 μ5 H locs ls Z (lv_sub hl [2, 3, 0] rfl) hq12
                      · have h := dw_ifT c22 h
                        refine lv_aload_n hx hb dX10_seep_80 rfl (lv_at hl 1 rfl) ?_
                        refine dw_g10_0 (t := 143) C0 Z dw_kc142 tw_fX10_7 rfl dX10_seep_81 ?_
                        refine lv_sipush (v := (140 : Int32)) hx hb dX10_seep_84 (by decide) ?_
                        refine lv_iload_n hx hb dX10_seep_87 rfl (lv_at hl 2 rfl) ?_
                        refine lv_iadd hx hb dX10_seep_88 ?_
                        obtain ⟨g24, h⟩ := dw_gdS h
                        refine dw_ald C0 Z dw_kc143 dw_lc143 g24 dX10_seep_89 ?_
                        refine lv_aload_n hx hb dX10_seep_90 rfl (lv_at hl 1 rfl) ?_
                        refine lv_iload_n hx hb dX10_seep_91 rfl (lv_at hl 2 rfl) ?_
                        refine lv_iconst (v := (1 : Int32)) hx hb dX10_seep_92 (by decide) ?_
                        obtain ⟨r26, hc25, h⟩ := dw_bdS h
                        refine dw_cVi C0 Z dw_hA (dw_lt dw_kc142 (by decide)) (dw_cz10 dw_kc142) rfl (As := [.int x1, .int (1 : Int32)]) (rest := [.int (μ5.1 143 ((140 : Int32) + x1).toNatClampNeg)]) (kX10_soilOf l Γ hj μ5 x1 (1 : Int32) hc25) (dw_gV tw_lX10_86 tw_vX10_soilOf tw_eX10_soilOf tw_iX10 tw_kX10_soilOf) dw_hX10_soilOf ⟨Nat.le_of_ble_eq_true rfl, Nat.le_of_ble_eq_true rfl⟩ ⟨Nat.zero_le _, Nat.zero_le _⟩ hl.1 (Nat.le_of_ble_eq_true rfl) rfl dX10_seep_93 (fun H locs Z => ?_)
                        refine lv_imul hx hb dX10_seep_96 ?_
                        refine lv_bipush (v := (100 : Int32)) hx hb dX10_seep_97 (by decide) ?_
                        refine lv_idiv hx hb dX10_seep_99 (by decide) ?_
                        refine lv_aload_n hx hb dX10_seep_100 rfl (lv_at hl 1 rfl) ?_
                        refine lv_iload_n hx hb dX10_seep_101 rfl (lv_at hl 3 rfl) ?_
                        obtain ⟨r28, hc27, h⟩ := dw_bdS h
                        refine dw_cVi C0 Z dw_hA (dw_lt dw_kc142 (by decide)) (dw_cz10 dw_kc142) rfl (As := [.int x4]) (rest := [.int (((μ5.1 143 ((140 : Int32) + x1).toNatClampNeg) * r26) / (100 : Int32))]) (kX10_holds l Γ hj μ5 x4 hc27) (dw_gV tw_lX10_80 tw_vX10_holds tw_eX10_holds tw_iX10 tw_kX10_holds) dw_hX10_holds ⟨Nat.le_of_ble_eq_true rfl, Nat.le_of_ble_eq_true rfl⟩ ⟨Nat.zero_le _, Nat.zero_le _⟩ hl.1 (Nat.le_of_ble_eq_true rfl) rfl dX10_seep_102 (fun H locs Z => ?_)
                        refine lv_aload_n hx hb dX10_seep_105 rfl (lv_at hl 1 rfl) ?_
                        refine lv_iload_n hx hb dX10_seep_106 rfl (lv_at hl 3 rfl) ?_
                        refine lv_bipush (v := (9 : Int32)) hx hb dX10_seep_107 (by decide) ?_
                        obtain ⟨r30, hc29, h⟩ := dw_bdS h
                        refine dw_cVi C0 Z dw_hA (dw_lt dw_kc142 (by decide)) (dw_cz10 dw_kc142) rfl (As := [.int x4, .int (9 : Int32)]) (rest := [.int r28, .int (((μ5.1 143 ((140 : Int32) + x1).toNatClampNeg) * r26) / (100 : Int32))]) (kX10_pipeOf l Γ hj μ5 x4 (9 : Int32) hc29) (dw_gV tw_lX10_55 tw_vX10_pipeOf tw_eX10_pipeOf tw_iX10 tw_kX10_pipeOf) dw_hX10_pipeOf ⟨Nat.le_of_ble_eq_true rfl, Nat.le_of_ble_eq_true rfl⟩ ⟨Nat.zero_le _, Nat.zero_le _⟩ hl.1 (Nat.le_of_ble_eq_true rfl) rfl dX10_seep_109 (fun H locs Z => ?_)
                        refine lv_isub hx hb dX10_seep_112 ?_
                        refine dw_cSi C0 Z dw_hA (As := [.int (((μ5.1 143 ((140 : Int32) + x1).toNatClampNeg) * r26) / (100 : Int32)), .int (r28 - r30)]) (rest := []) (kX10_lesser l Γ hj μ5 (((μ5.1 143 ((140 : Int32) + x1).toNatClampNeg) * r26) / (100 : Int32)) (r28 - r30) rfl) (dw_gS tw_lX10_77 tw_sX10_lesser tw_iX10 tw_kX10_lesser) dw_hX10_lesser ⟨Nat.le_of_ble_eq_true rfl, Nat.le_of_ble_eq_true rfl⟩ ⟨Nat.zero_le _, Nat.zero_le _⟩ hl.1 (Nat.le_of_ble_eq_true rfl) rfl dX10_seep_113 (fun H locs Z => ?_)
                        refine lv_topi (fun x31 ex31 => ?_)
                        have h := dw_nmS ex31 h
                        refine lv_istore (lv' := [(4, .int x31), (3, .int x9), (0, .ref (dw_ad Γ 142)), (1, .int x1), (2, .int x4)]) hx hb dX10_seep_116 hl (by decide) rfl (fun ls hl => ?_)
                        refine lv_aload_n hx hb dX10_seep_118 rfl (lv_at hl 2 rfl) ?_
                        refine dw_g10_0 (t := 143) C0 Z dw_kc142 tw_fX10_7 rfl dX10_seep_119 ?_
                        refine lv_sipush (v := (140 : Int32)) hx hb dX10_seep_122 (by decide) ?_
                        refine lv_iload_n hx hb dX10_seep_125 rfl (lv_at hl 3 rfl) ?_
                        refine lv_iadd hx hb dX10_seep_126 ?_
                        refine lv_dup2_11 hx hb dX10_seep_127 rfl rfl ?_
                        refine dw_ald C0 Z dw_kc143 dw_lc143 g24 dX10_seep_128 ?_
                        refine lv_iload hx hb dX10_seep_129 (lv_at hl 0 rfl) ?_
                        refine lv_isub hx hb dX10_seep_131 ?_
                        refine dw_ast C0 Z dw_hA dw_kc143 dw_lc143 g24 dX10_seep_132 (fun μ32 eμ32 H locs Z => ?_)
                        have h := dw_nmS eμ32 h
                        refine lv_aload_n hx hb dX10_seep_133 rfl (lv_at hl 2 rfl) ?_
                        refine lv_iload_n hx hb dX10_seep_134 rfl (lv_at hl 4 rfl) ?_
                        refine lv_bipush (v := (9 : Int32)) hx hb dX10_seep_135 (by decide) ?_
                        refine lv_aload_n hx hb dX10_seep_137 rfl (lv_at hl 2 rfl) ?_
                        refine lv_iload_n hx hb dX10_seep_138 rfl (lv_at hl 4 rfl) ?_
                        refine lv_bipush (v := (9 : Int32)) hx hb dX10_seep_139 (by decide) ?_
                        obtain ⟨r34, hc33, h⟩ := dw_bdS h
                        refine dw_cVi C0 Z dw_hA (dw_lt dw_kc142 (by decide)) (dw_cz10 dw_kc142) rfl (As := [.int x4, .int (9 : Int32)]) (rest := [.int (9 : Int32), .int x4, .ref (dw_ad Γ 142)]) (kX10_pipeOf l Γ hj μ32 x4 (9 : Int32) hc33) (dw_gV tw_lX10_55 tw_vX10_pipeOf tw_eX10_pipeOf tw_iX10 tw_kX10_pipeOf) dw_hX10_pipeOf ⟨Nat.le_of_ble_eq_true rfl, Nat.le_of_ble_eq_true rfl⟩ ⟨Nat.zero_le _, Nat.zero_le _⟩ hl.1 (Nat.le_of_ble_eq_true rfl) rfl dX10_seep_141 (fun H locs Z => ?_)
                        refine lv_iload hx hb dX10_seep_144 (lv_at hl 0 rfl) ?_
                        refine lv_iadd hx hb dX10_seep_146 ?_
                        obtain ⟨μ36, hc35, h⟩ := dw_bdS h
                        refine dw_cVv C0 Z dw_hA (dw_lt dw_kc142 (by decide)) (dw_cz10 dw_kc142) rfl (As := [.int x4, .int (9 : Int32), .int (r34 + x31)]) (rest := []) (kX10_setPipe l Γ hj μ32 x4 (9 : Int32) (r34 + x31) hc35) (dw_gV tw_lX10_51 tw_vX10_setPipe tw_eX10_setPipe tw_iX10 tw_kX10_setPipe) dw_hX10_setPipe ⟨Nat.le_of_ble_eq_true rfl, Nat.le_of_ble_eq_true rfl⟩ ⟨Nat.zero_le _, Nat.zero_le _⟩ hl.1 (Nat.le_of_ble_eq_true rfl) rfl dX10_seep_147 (fun H locs Z => ?_)
                        obtain ⟨x37, ex37⟩ := dw_eg (x4 + (1 : Int32))
                        have h := dw_nmS ex37 h
                        refine lv_iinc (v := x37) (lv' := [(2, .int x37), (4, .int x31), (3, .int x9), (0, .ref (dw_ad Γ 142)), (1, .int x1)]) hx hb dX10_seep_150 hl (k := 4) rfl (by rw [ex37]; rfl) (by decide) rfl (fun ls hl => ?_)
                        refine lv_goto (tgt := 12) hx hb dX10_seep_153 (by decide) ?_
                        obtain rfl := dw_s1 h
                        exact ih12 x37 μ36 H locs ls Z (lv_sub hl [3, 4, 0] rfl) hq12
              obtain ⟨k47, ek47, h⟩ := dw_jnS h
              have J47 : ∀ (H : Heap) (locs : List Loc) (ls : Array Slot), dw_Z Γ (dw_A Γ) s.heap μ5 H locs → lv_has ls 5 [(0, .ref (dw_ad Γ 142)), (1, .int x1), (2, .int x4)] → k47 = some q12 → W p l e (dw_rm 4 91) s m ([.ref (dw_ad Γ 142)] : List Value).toArray below meth c H locs 0 0 (MQ below (dw_Qv Γ ν) ([.ref (dw_ad Γ 142)] : List Value).toArray s 0 0 (dw_A Γ)) (F0 m 47 ls []) := by
                clear h
                intro  H locs ls Z hl h
                rw [ek47] at h
                refine lv_iconst (v := (0 : Int32)) hx hb dX10_seep_47 (by decide) ?_
                exact J48 (0 : Int32) H locs ls Z (lv_sub hl [0, 1, 2] rfl) h
              refine lv_icmp_ne (tgt := 47) hx hb dX10_seep_30 (by decide) (fun c38 => ?_) (fun c38 => ?_)
              · have h := dw_ifF c38 h
                exact J47 H locs ls Z (lv_sub hl [0, 1, 2] rfl) h
              · have h := dw_ifT c38 h
                refine lv_aload_n hx hb dX10_seep_33 rfl (lv_at hl 0 rfl) ?_
                refine lv_iload_n hx hb dX10_seep_34 rfl (lv_at hl 2 rfl) ?_
                refine lv_bipush (v := (6 : Int32)) hx hb dX10_seep_35 (by decide) ?_
                obtain ⟨r40, hc39, h⟩ := dw_bdS h
                refine dw_cVi C0 Z dw_hA (dw_lt dw_kc142 (by decide)) (dw_cz10 dw_kc142) rfl (As := [.int x4, .int (6 : Int32)]) (rest := []) (kX10_pipeOf l Γ hj μ5 x4 (6 : Int32) hc39) (dw_gV tw_lX10_55 tw_vX10_pipeOf tw_eX10_pipeOf tw_iX10 tw_kX10_pipeOf) dw_hX10_pipeOf ⟨Nat.le_of_ble_eq_true rfl, Nat.le_of_ble_eq_true rfl⟩ ⟨Nat.zero_le _, Nat.zero_le _⟩ hl.1 (Nat.le_of_ble_eq_true rfl) rfl dX10_seep_37 (fun H locs Z => ?_)
                refine lv_if_ne (tgt := 47) hx hb dX10_seep_40 (by decide) (fun c41 => ?_) (fun c41 => ?_)
                · have h := dw_ifF c41 h
                  exact J47 H locs ls Z (lv_sub hl [0, 1, 2] rfl) h
                · have h := dw_ifT c41 h
                  refine lv_iconst (v := (1 : Int32)) hx hb dX10_seep_43 (by decide) ?_
                  refine lv_goto (tgt := 48) hx hb dX10_seep_44 (by decide) ?_
                  exact J48 (1 : Int32) H locs ls Z (lv_sub hl [0, 1, 2] rfl) h
        exact L12 1000 (0 : Int32) μ2 H locs ls Z (lv_sub hl [1, 2, 0] rfl) h
  exact L2 1000 (0 : Int32) μ H locs ls Z (lv_sub hl [1, 0] rfl) h
