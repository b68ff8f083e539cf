def fX3_clear (μ : dw_M) (i : Nat) : dw_M :=
  dw_nm (fX3_set μ i (0 : Int32) (0 : Int32) (0 : Int32) (0 : Int32) (0 : Int32)) (fun μ1 =>
   μ1)
set_option maxHeartbeats 4000000 in
set_option maxRecDepth 100000 in
theorem kX3_clear (l : Launch) (Γ : dw_G) (hj : dw_inj Γ) (μ : dw_M) (i : Nat) (hk_i : dw_kd i = 3) {ν : dw_M} (h : fX3_clear μ i = ν) : Met l yX3_clear (dw_ws yX3_clear cX3_clear 1 none) (dw_rm 1 25) (dw_P Γ ([.ref (dw_ad Γ i)] : List Value) μ) (dw_Qv Γ ν) 0 0 (dw_A Γ) := by
  refine dw_met (own := RX3) rfl rfl (Nat.le_of_ble_eq_true rfl) hj ?_
  intro p e s m below meth c C0 hr hlk Z ls hl
  have hx := C0.1
  have hb := C0.2.1
  have hl : lv_has ls 1 [(0, .ref (dw_ad Γ i))] := hl
  suffices key : ∀ (H : Heap) (locs : List Loc), dw_Z Γ (dw_A Γ) s.heap μ H locs → W p l e (dw_rm 1 25) s m ([.ref (dw_ad Γ i)] : List Value).toArray below meth c H locs 0 0 (MQ below (dw_Qv Γ ν) ([.ref (dw_ad Γ i)] : List Value).toArray s 0 0 (dw_A Γ)) (F0 m 0 ls []) from key _ _ Z
  clear Z
  intro H locs Z
  unfold fX3_clear at h
  refine lv_aload_n hx hb dX3_clear_0 rfl (lv_at hl 0 rfl) ?_
  refine lv_iconst (v := (0 : Int32)) hx hb dX3_clear_1 (by decide) ?_
  refine lv_iconst (v := (0 : Int32)) hx hb dX3_clear_2 (by decide) ?_
  refine lv_iconst (v := (0 : Int32)) hx hb dX3_clear_3 (by decide) ?_
  refine lv_iconst (v := (0 : Int32)) hx hb dX3_clear_4 (by decide) ?_
  refine lv_iconst (v := (0 : Int32)) hx hb dX3_clear_5 (by decide) ?_
  obtain ⟨μ1, eμ1⟩ := dw_eg (fX3_set μ i (0 : Int32) (0 : Int32) (0 : Int32) (0 : Int32) (0 : Int32))
  have h := dw_nmS eμ1 h
  refine dw_cVv C0 Z dw_hA (dw_lt hk_i (by decide)) (dw_cz3 hk_i) rfl (As := [.int (0 : Int32), .int (0 : Int32), .int (0 : Int32), .int (0 : Int32), .int (0 : Int32)]) (rest := []) (kX3_set l Γ hj μ i hk_i (0 : Int32) (0 : Int32) (0 : Int32) (0 : Int32) (0 : Int32) eμ1.symm) (dw_gV tw_lX3_25 tw_vX3_set tw_eX3_set tw_iX3 tw_kX3_set) dw_hX3_set ⟨Nat.le_of_ble_eq_true rfl, Nat.le_of_ble_eq_true rfl⟩ ⟨Nat.zero_le _, Nat.zero_le _⟩ hl.1 (Nat.le_of_ble_eq_true rfl) rfl dX3_clear_6 (fun H locs Z => ?_)
  obtain rfl := dw_t1 h
  exact dw_vret C0 Z hr hlk dX3_clear_9

def fX3_copyFrom (μ : dw_M) (i : Nat) (j : Nat) : dw_M :=
  dw_nm (fX3_set μ i (μ.1 j 0) (μ.1 j 1) (μ.1 j 2) (μ.1 j 3) (μ.1 j 4)) (fun μ1 =>
   μ1)
set_option maxHeartbeats 4000000 in
set_option maxRecDepth 100000 in
theorem kX3_copyFrom (l : Launch) (Γ : dw_G) (hj : dw_inj Γ) (μ : dw_M) (i : Nat) (hk_i : dw_kd i = 3) (j : Nat) (hk_j : dw_kd j = 3) {ν : dw_M} (h : fX3_copyFrom μ i j = ν) : Met l yX3_copyFrom (dw_ws yX3_copyFrom cX3_copyFrom 2 none) (dw_rm 1 25) (dw_P Γ ([.ref (dw_ad Γ i), .ref (dw_ad Γ j)] : List Value) μ) (dw_Qv Γ ν) 0 0 (dw_A Γ) := by
  refine dw_met (own := RX3) rfl rfl (Nat.le_of_ble_eq_true rfl) hj ?_
  intro p e s m below meth c C0 hr hlk Z ls hl
  have hx := C0.1
  have hb := C0.2.1
  have hl : lv_has ls 2 [(0, .ref (dw_ad Γ i)), (1, .ref (dw_ad Γ j))] := hl
  suffices key : ∀ (H : Heap) (locs : List Loc), dw_Z Γ (dw_A Γ) s.heap μ H locs → W p l e (dw_rm 1 25) s m ([.ref (dw_ad Γ i), .ref (dw_ad Γ j)] : List Value).toArray below meth c H locs 0 0 (MQ below (dw_Qv Γ ν) ([.ref (dw_ad Γ i), .ref (dw_ad Γ j)] : List Value).toArray s 0 0 (dw_A Γ)) (F0 m 0 ls []) from key _ _ Z
  clear Z
  intro H locs Z
  unfold fX3_copyFrom at h
  refine lv_aload_n hx hb dX3_copyFrom_0 rfl (lv_at hl 0 rfl) ?_
  refine lv_aload_n hx hb dX3_copyFrom_1 rfl (lv_at hl 1 rfl) ?_
  refine dw_g3_0 C0 Z hk_j tw_fX3_7 dX3_copyFrom_2 ?_
  refine lv_aload_n hx hb dX3_copyFrom_5 rfl (lv_at hl 1 rfl) ?_
  refine dw_g3_1 C0 Z hk_j tw_fX3_13 dX3_copyFrom_6 ?_
  refine lv_aload_n hx hb dX3_copyFrom_9 rfl (lv_at hl 1 rfl) ?_
  refine dw_g3_2 C0 Z hk_j tw_fX3_16 dX3_copyFrom_10 ?_
  refine lv_aload_n hx hb dX3_copyFrom_13 rfl (lv_at hl 1 rfl) ?_
  refine dw_g3_3 C0 Z hk_j tw_fX3_19 dX3_copyFrom_14 ?_
  refine lv_aload_n hx hb dX3_copyFrom_17 rfl (lv_at hl 1 rfl) ?_
  refine dw_g3_4 C0 Z hk_j tw_fX3_22 dX3_copyFrom_18 ?_
  obtain ⟨μ1, eμ1⟩ := dw_eg (fX3_set μ i (μ.1 j 0) (μ.1 j 1) (μ.1 j 2) (μ.1 j 3) (μ.1 j 4))
  have h := dw_nmS eμ1 h
  refine dw_cVv C0 Z dw_hA (dw_lt hk_i (by decide)) (dw_cz3 hk_i) rfl (As := [.int (μ.1 j 0), .int (μ.1 j 1), .int (μ.1 j 2), .int (μ.1 j 3), .int (μ.1 j 4)]) (rest := []) (kX3_set l Γ hj μ i hk_i (μ.1 j 0) (μ.1 j 1) (μ.1 j 2) (μ.1 j 3) (μ.1 j 4) eμ1.symm) (dw_gV tw_lX3_25 tw_vX3_set tw_eX3_set tw_iX3 tw_kX3_set) dw_hX3_set ⟨Nat.le_of_ble_eq_true rfl, Nat.le_of_ble_eq_true rfl⟩ ⟨Nat.zero_le _, Nat.zero_le _⟩ hl.1 (Nat.le_of_ble_eq_true rfl) rfl dX3_copyFrom_21 (fun H locs Z => ?_)
  obtain rfl := dw_t1 h
  exact dw_vret C0 Z hr hlk dX3_copyFrom_24

def fX5_copyFrom (μ : dw_M) (i : Nat) (j : Nat) : dw_M :=
  dw_nm (fX3_copyFrom μ (i + 1) (j + 1)) (fun μ1 =>
  dw_nm (dw_st μ1 i 1 (μ1.1 j 1)) (fun μ2 =>
  dw_nm (dw_st μ2 i 2 (μ2.1 j 2)) (fun μ3 =>
  dw_nm (dw_st μ3 i 3 (μ3.1 j 3)) (fun μ4 =>
  dw_nm (dw_st μ4 i 4 (μ4.1 j 4)) (fun μ5 =>
  dw_nm (dw_st μ5 i 5 (μ5.1 j 5)) (fun μ6 =>
   μ6))))))
set_option maxHeartbeats 4000000 in
set_option maxRecDepth 100000 in
theorem kX5_copyFrom (l : Launch) (Γ : dw_G) (hj : dw_inj Γ) (μ : dw_M) (i : Nat) (hk_i : dw_kd i = 5) (j : Nat) (hk_j : dw_kd j = 5) {ν : dw_M} (h : fX5_copyFrom μ i j = ν) : Met l yX5_copyFrom (dw_ws yX5_copyFrom cX5_copyFrom 2 none) (dw_rm 2 46) (dw_P Γ ([.ref (dw_ad Γ i), .ref (dw_ad Γ j)] : List Value) μ) (dw_Qv Γ ν) 0 0 (dw_A Γ) := by
  refine dw_met (own := RX5) rfl rfl (Nat.le_of_ble_eq_true rfl) hj ?_
  intro p e s m below meth c C0 hr hlk Z ls hl
  have hx := C0.1
  have hb := C0.2.1
  have hl : lv_has ls 2 [(0, .ref (dw_ad Γ i)), (1, .ref (dw_ad Γ j))] := hl
  suffices key : ∀ (H : Heap) (locs : List Loc), dw_Z Γ (dw_A Γ) s.heap μ H locs → W p l e (dw_rm 2 46) s m ([.ref (dw_ad Γ i), .ref (dw_ad Γ j)] : List Value).toArray below meth c H locs 0 0 (MQ below (dw_Qv Γ ν) ([.ref (dw_ad Γ i), .ref (dw_ad Γ j)] : List Value).toArray s 0 0 (dw_A Γ)) (F0 m 0 ls []) from key _ _ Z
  clear Z
  intro H locs Z
  unfold fX5_copyFrom at h
  refine lv_aload_n hx hb dX5_copyFrom_0 rfl (lv_at hl 0 rfl) ?_
  refine dw_g5_0 (t := (i + 1)) C0 Z hk_i tw_fX5_12 rfl dX5_copyFrom_1 ?_
  refine lv_aload_n hx hb dX5_copyFrom_4 rfl (lv_at hl 1 rfl) ?_
  refine dw_g5_0 (t := (j + 1)) C0 Z hk_j tw_fX5_12 rfl dX5_copyFrom_5 ?_
  obtain ⟨μ1, eμ1⟩ := dw_eg (fX3_copyFrom μ (i + 1) (j + 1))
  have h := dw_nmS eμ1 h
  refine dw_cVv C0 Z dw_hA (dw_lt (dw_r5_0 hk_i) (by decide)) (dw_cz3 (dw_r5_0 hk_i)) rfl (As := [.ref (dw_ad Γ (j + 1))]) (rest := []) (kX3_copyFrom l Γ hj μ (i + 1) (dw_r5_0 hk_i) (j + 1) (dw_r5_0 hk_j) eμ1.symm) (dw_gV tw_lX5_18 tw_vX3_copyFrom tw_eX3_copyFrom tw_iX3 tw_kX3_copyFrom) dw_hX3_copyFrom ⟨Nat.le_of_ble_eq_true rfl, Nat.le_of_ble_eq_true rfl⟩ ⟨Nat.zero_le _, Nat.zero_le _⟩ hl.1 (Nat.le_of_ble_eq_true rfl) rfl dX5_copyFrom_8 (fun H locs Z => ?_)
  refine lv_aload_n hx hb dX5_copyFrom_11 rfl (lv_at hl 0 rfl) ?_
  refine lv_aload_n hx hb dX5_copyFrom_12 rfl (lv_at hl 1 rfl) ?_
  refine dw_g5_1 C0 Z hk_j tw_fX5_22 dX5_copyFrom_13 ?_
  refine dw_p5_1 C0 Z dw_hA hk_i tw_fX5_22 dX5_copyFrom_16 (fun μ2 eμ2 H locs Z => ?_)
  have h := dw_nmS eμ2 h
  refine lv_aload_n hx hb dX5_copyFrom_19 rfl (lv_at hl 0 rfl) ?_
  refine lv_aload_n hx hb dX5_copyFrom_20 rfl (lv_at hl 1 rfl) ?_
  refine dw_g5_2 C0 Z hk_j tw_fX5_26 dX5_copyFrom_21 ?_
  refine dw_p5_2 C0 Z dw_hA hk_i tw_fX5_26 dX5_copyFrom_24 (fun μ3 eμ3 H locs Z => ?_)
  have h := dw_nmS eμ3 h
  refine lv_aload_n hx hb dX5_copyFrom_27 rfl (lv_at hl 0 rfl) ?_
  refine lv_aload_n hx hb dX5_copyFrom_28 rfl (lv_at hl 1 rfl) ?_
  refine dw_g5_3 C0 Z hk_j tw_fX5_32 dX5_copyFrom_29 ?_
  refine dw_p5_3 C0 Z dw_hA hk_i tw_fX5_32 dX5_copyFrom_32 (fun μ4 eμ4 H locs Z => ?_)
  have h := dw_nmS eμ4 h
  refine lv_aload_n hx hb dX5_copyFrom_35 rfl (lv_at hl 0 rfl) ?_
  refine lv_aload_n hx hb dX5_copyFrom_36 rfl (lv_at hl 1 rfl) ?_
  refine dw_g5_4 C0 Z hk_j tw_fX5_38 dX5_copyFrom_37 ?_
  refine dw_p5_4 C0 Z dw_hA hk_i tw_fX5_38 dX5_copyFrom_40 (fun μ5 eμ5 H locs Z => ?_)
  have h := dw_nmS eμ5 h
  refine lv_aload_n hx hb dX5_copyFrom_43 rfl (lv_at hl 0 rfl) ?_
  refine lv_aload_n hx hb dX5_copyFrom_44 rfl (lv_at hl 1 rfl) ?_
  refine dw_g5_5 C0 Z hk_j tw_fX5_41 dX5_copyFrom_45 ?_
  refine dw_p5_5 C0 Z dw_hA hk_i tw_fX5_41 dX5_copyFrom_48 (fun μ6 eμ6 H locs Z => ?_)
  have h := dw_nmS eμ6 h
  obtain rfl := dw_t1 h
  exact dw_vret C0 Z hr hlk dX5_copyFrom_51

def sX4_copyFrom_2 (i : Nat) (j : Nat) (x1 : Int32) (μ2 : dw_M) : Option ((Int32 × dw_M) ⊕ ((dw_M))) :=
  if (μ2.1 j 1) ≤ x1 then (
  some (.inr μ2))
  else (
  dw_gd (dw_ok x1 20) (
  dw_nm (fX5_copyFrom μ2 ((i + 1) + 1 + 2 * x1.toNatClampNeg) ((j + 1) + 1 + 2 * x1.toNatClampNeg)) (fun μ5 =>
  dw_nm (x1 + (1 : Int32)) (fun x6 =>
  some (.inl (x6, μ5))))))
def fX4_copyFrom (μ : dw_M) (i : Nat) (j : Nat) : Option (dw_M) :=
  dw_bd (dw_wh (fun v => sX4_copyFrom_2 i j v.1 v.2) 1000 ((0 : Int32), μ))
    (fun μ7 => dw_nm (dw_st μ7 i 1 (μ7.1 j 1)) (fun μ8 =>
  some μ8))
set_option maxHeartbeats 4000000 in
set_option maxRecDepth 100000 in
theorem kX4_copyFrom (l : Launch) (Γ : dw_G) (hj : dw_inj Γ) (μ : dw_M) (i : Nat) (hk_i : dw_kd i = 4) (j : Nat) (hk_j : dw_kd j = 4) {ν : dw_M} (h : fX4_copyFrom μ i j = some ν) : Met l yX4_copyFrom (dw_ws yX4_copyFrom cX4_copyFrom 3 none) (dw_rm 3 67) (dw_P Γ ([.ref (dw_ad Γ i), .ref (dw_ad Γ j)] : List Value) μ) (dw_Qv Γ ν) 0 0 (dw_A Γ) := by
  refine dw_met (own := RX4) rfl rfl (Nat.le_of_ble_eq_true rfl) hj ?_
  intro p e s m below meth c C0 hr hlk Z ls hl
  have hx := C0.1
  have hb := C0.2.1
  have hl : lv_has ls 3 [(0, .ref (dw_ad Γ i)), (1, .ref (dw_ad Γ j))] := hl
  suffices key : ∀ (H : Heap) (locs : List Loc), dw_Z Γ (dw_A Γ) s.heap μ H locs → W p l e (dw_rm 3 67) s m ([.ref (dw_ad Γ i), .ref (dw_ad Γ j)] : List Value).toArray below meth c H locs 0 0 (MQ below (dw_Qv Γ ν) ([.ref (dw_ad Γ i), .ref (dw_ad Γ j)] : List Value).toArray s 0 0 (dw_A Γ)) (F0 m 0 ls []) from key _ _ Z
  clear Z
  intro H locs Z
  unfold fX4_copyFrom at h
  refine lv_iconst (v := (0 : Int32)) hx hb dX4_copyFrom_0 (by decide) ?_
  refine lv_istore_n (lv' := [(2, .int (0 : Int32)), (0, .ref (dw_ad Γ i)), (1, .ref (dw_ad Γ j))]) hx hb dX4_copyFrom_1 rfl hl (by decide) rfl (fun ls hl => ?_)
  obtain ⟨kc2, ekc2, h⟩ := dw_bdK h
  have E2 : ∀ (μ7 : dw_M) (H : Heap) (locs : List Loc) (ls : Array Slot), dw_Z Γ (dw_A Γ) s.heap μ7 H locs → lv_has ls 3 [(0, .ref (dw_ad Γ i)), (1, .ref (dw_ad Γ j))] → kc2 μ7 = some ν → W p l e (dw_rm 3 67) s m ([.ref (dw_ad Γ i), .ref (dw_ad Γ j)] : List Value).toArray below meth c H locs 0 0 (MQ below (dw_Qv Γ ν) ([.ref (dw_ad Γ i), .ref (dw_ad Γ j)] : List Value).toArray s 0 0 (dw_A Γ)) (F0 m 31 ls []) := by
    intro μ7 H locs ls Z hl h
    rw [ekc2] at h
    dsimp only at h
    refine lv_aload_n hx hb dX4_copyFrom_31 rfl (lv_at hl 0 rfl) ?_
    refine lv_aload_n hx hb dX4_copyFrom_32 rfl (lv_at hl 1 rfl) ?_
    refine dw_g4_1 C0 Z hk_j tw_fX4_18 dX4_copyFrom_33 ?_
    refine dw_p4_1 C0 Z dw_hA hk_i tw_fX4_18 dX4_copyFrom_36 (fun μ8 eμ8 H locs Z => ?_)
    have h := dw_nmS eμ8 h
    obtain rfl := dw_s1 h
    exact dw_vret C0 Z hr hlk dX4_copyFrom_39
  have L2 : ∀ (n2 : Nat) (x1 : Int32) (μ2 : dw_M) (H : Heap) (locs : List Loc) (ls : Array Slot), dw_Z Γ (dw_A Γ) s.heap μ2 H locs → lv_has ls 3 [(0, .ref (dw_ad Γ i)), (1, .ref (dw_ad Γ j)), (2, .int x1)] → dw_bd (dw_wh (fun v => sX4_copyFrom_2 i j v.1 v.2) n2 (x1, μ2)) kc2 = some ν → W p l e (dw_rm 3 67) s m ([.ref (dw_ad Γ i), .ref (dw_ad Γ j)] : List Value).toArray below meth c H locs 0 0 (MQ below (dw_Qv Γ ν) ([.ref (dw_ad Γ i), .ref (dw_ad Γ j)] : List Value).toArray s 0 0 (dw_A Γ)) (F0 m 2 ls []) := by
    clear h
    intro n2
    induction n2 with
    | zero =>
      intro x1 μ2 H locs ls Z hl h
      exact (dw_wh0 h).elim
    | succ n2 ih2 =>
      intro x1 μ2 H locs ls Z hl h
      obtain ⟨q2, hs, hq2⟩ := dw_whB h
      have h : sX4_copyFrom_2 i j x1 μ2 = some q2 := hs
      unfold sX4_copyFrom_2 at h
      refine lv_iload_n hx hb dX4_copyFrom_2 rfl (lv_at hl 2 rfl) ?_
      refine lv_aload_n hx hb dX4_copyFrom_3 rfl (lv_at hl 1 rfl) ?_
      refine dw_g4_1 C0 Z hk_j tw_fX4_18 dX4_copyFrom_4 ?_
      refine lv_icmp_ge (tgt := 31) hx hb dX4_copyFrom_7 (by decide) (fun c3 => ?_) (fun c3 => ?_)
      · have h := dw_ifT c3 h
        obtain rfl := dw_s1 h
        exact E2  μ2 H locs ls Z (lv_sub hl [0, 1] rfl) hq2
      · have h := dw_ifF c3 h
        refine lv_aload_n hx hb dX4_copyFrom_10 rfl (lv_at hl 0 rfl) ?_
        refine dw_g4_0 (t := (i + 1)) C0 Z hk_i tw_fX4_11 rfl dX4_copyFrom_11 ?_
        refine lv_iload_n hx hb dX4_copyFrom_14 rfl (lv_at hl 2 rfl) ?_
        obtain ⟨g4, h⟩ := dw_gdS h
        refine dw_aald C0 Z (dw_r4_0 hk_i) g4 dX4_copyFrom_15 ?_
        refine lv_aload_n hx hb dX4_copyFrom_16 rfl (lv_at hl 1 rfl) ?_
        refine dw_g4_0 (t := (j + 1)) C0 Z hk_j tw_fX4_11 rfl dX4_copyFrom_17 ?_
        refine lv_iload_n hx hb dX4_copyFrom_20 rfl (lv_at hl 2 rfl) ?_
        refine dw_aald C0 Z (dw_r4_0 hk_j) g4 dX4_copyFrom_21 ?_
        obtain ⟨μ5, eμ5⟩ := dw_eg (fX5_copyFrom μ2 ((i + 1) + 1 + 2 * x1.toNatClampNeg) ((j + 1) + 1 + 2 * x1.toNatClampNeg))
        have h := dw_nmS eμ5 h
        refine dw_cVv C0 Z dw_hA (dw_lt (dw_pk (dw_r4_0 hk_i) (dw_ok_lt g4)) (by decide)) (dw_cz5 (dw_pk (dw_r4_0 hk_i) (dw_ok_lt g4))) rfl (As := [.ref (dw_ad Γ ((j + 1) + 1 + 2 * x1.toNatClampNeg))]) (rest := []) (kX5_copyFrom l Γ hj μ2 ((i + 1) + 1 + 2 * x1.toNatClampNeg) (dw_pk (dw_r4_0 hk_i) (dw_ok_lt g4)) ((j + 1) + 1 + 2 * x1.toNatClampNeg) (dw_pk (dw_r4_0 hk_j) (dw_ok_lt g4)) eμ5.symm) (dw_gV tw_lX4_22 tw_vX5_copyFrom tw_eX5_copyFrom tw_iX5 tw_kX5_copyFrom) dw_hX5_copyFrom ⟨Nat.le_of_ble_eq_true rfl, Nat.le_of_ble_eq_true rfl⟩ ⟨Nat.zero_le _, Nat.zero_le _⟩ hl.1 (Nat.le_of_ble_eq_true rfl) rfl dX4_copyFrom_22 (fun H locs Z => ?_)
        obtain ⟨x6, ex6⟩ := dw_eg (x1 + (1 : Int32))
        have h := dw_nmS ex6 h
        refine lv_iinc (v := x6) (lv' := [(2, .int x6), (0, .ref (dw_ad Γ i)), (1, .ref (dw_ad Γ j))]) hx hb dX4_copyFrom_25 hl (k := 2) rfl (by rw [ex6]; rfl) (by decide) rfl (fun ls hl => ?_)
        refine lv_goto (tgt := 2) hx hb dX4_copyFrom_28 (by decide) ?_
        obtain rfl := dw_s1 h
        exact ih2 x6 μ5 H locs ls Z (lv_sub hl [1, 2, 0] rfl) hq2
  exact L2 1000 (0 : Int32) μ H locs ls Z (lv_sub hl [1, 2, 0] rfl) h

def sX4_leadsTo_5 (μ : dw_M) (a2 : Int32) (x1 : Int32) (x2 : Int32) : Option ((Int32 × Int32) ⊕ ((Int32))) :=
  if (20 : Int32) ≤ x2 then (
  some (.inr x1))
  else (
  if (fX4_hasPipe μ x1) = 0 then (
  some (.inr x1))
  else (
  if x1 = a2 then (
  some (.inr x1))
  else (
  dw_gd (dw_ok x1 20) (
  dw_nm (μ.1 (12 + 1 + 2 * x1.toNatClampNeg) 5) (fun x7 =>
  dw_nm (x2 + (1 : Int32)) (fun x8 =>
  some (.inl (x7, x8))))))))
def fX4_leadsTo (μ : dw_M) (a1 : Int32) (a2 : Int32) : Option (Int32) :=
  dw_bd (dw_wh (fun v => sX4_leadsTo_5 μ a2 v.1 v.2) 1000 (a1, (0 : Int32)))
    (fun x9 => if x9 = a2 then (
  some (1 : Int32))
  else (
  some (0 : Int32)))
set_option maxHeartbeats 4000000 in
set_option maxRecDepth 100000 in
theorem kX4_leadsTo (l : Launch) (Γ : dw_G) (hj : dw_inj Γ) (μ : dw_M) (a1 : Int32) (a2 : Int32) {r : Int32} (h : fX4_leadsTo μ a1 a2 = some r) : Met l yX4_leadsTo (dw_ws yX4_leadsTo cX4_leadsTo 5 (some .boolean)) (dw_rm 1 21) (dw_P Γ ([.ref (dw_ad Γ 11), .int a1, .int a2] : List Value) μ) (dw_Qi Γ r μ) 0 0 (dw_A Γ) := by
  refine dw_met (own := RX4) rfl rfl (Nat.le_of_ble_eq_true rfl) hj ?_
  intro p e s m below meth c C0 hr hlk Z ls hl
  have hx := C0.1
  have hb := C0.2.1
  have hl : lv_has ls 5 [(0, .ref (dw_ad Γ 11)), (1, .int a1), (2, .int a2)] := hl
  suffices key : ∀ (H : Heap) (locs : List Loc), dw_Z Γ (dw_A Γ) s.heap μ H locs → W p l e (dw_rm 1 21) s m ([.ref (dw_ad Γ 11), .int a1, .int a2] : List Value).toArray below meth c H locs 0 0 (MQ below (dw_Qi Γ r μ) ([.ref (dw_ad Γ 11), .int a1, .int a2] : List Value).toArray s 0 0 (dw_A Γ)) (F0 m 0 ls []) from key _ _ Z
  clear Z
  intro H locs Z
  unfold fX4_leadsTo at h
  refine lv_iload_n hx hb dX4_leadsTo_0 rfl (lv_at hl 1 rfl) ?_
  refine lv_istore_n (lv' := [(3, .int a1), (0, .ref (dw_ad Γ 11)), (1, .int a1), (2, .int a2)]) hx hb dX4_leadsTo_1 rfl hl (by decide) rfl (fun ls hl => ?_)
  refine lv_iconst (v := (0 : Int32)) hx hb dX4_leadsTo_2 (by decide) ?_
  refine lv_istore (lv' := [(4, .int (0 : Int32)), (3, .int a1), (0, .ref (dw_ad Γ 11)), (1, .int a1), (2, .int a2)]) hx hb dX4_leadsTo_3 hl (by decide) rfl (fun ls hl => ?_)
  obtain ⟨kc5, ekc5, h⟩ := dw_bdK h
  have E5 : ∀ (x9 : Int32) (H : Heap) (locs : List Loc) (ls : Array Slot), dw_Z Γ (dw_A Γ) s.heap μ H locs → lv_has ls 5 [(2, .int a2), (3, .int x9)] → kc5 x9 = some r → W p l e (dw_rm 1 21) s m ([.ref (dw_ad Γ 11), .int a1, .int a2] : List Value).toArray below meth c H locs 0 0 (MQ below (dw_Qi Γ r μ) ([.ref (dw_ad Γ 11), .int a1, .int a2] : List Value).toArray s 0 0 (dw_A Γ)) (F0 m 41 ls []) := by
    intro x9 H locs ls Z hl h
    rw [ekc5] at h
    dsimp only at h
    refine lv_iload_n hx hb dX4_leadsTo_41 rfl (lv_at hl 1 rfl) ?_
    refine lv_iload_n hx hb dX4_leadsTo_42 rfl (lv_at hl 0 rfl) ?_
    refine lv_icmp_ne (tgt := 50) hx hb dX4_leadsTo_43 (by decide) (fun c10 => ?_) (fun c10 => ?_)
    · have h := dw_ifF c10 h
      refine lv_iconst (v := (0 : Int32)) hx hb dX4_leadsTo_50 (by decide) ?_
      obtain rfl := dw_s1 h
      exact dw_zret C0 Z hr hlk rfl dX4_leadsTo_51
    · have h := dw_ifT c10 h
      refine lv_iconst (v := (1 : Int32)) hx hb dX4_leadsTo_46 (by decide) ?_
      refine lv_goto (tgt := 51) hx hb dX4_leadsTo_47 (by decide) ?_
      obtain rfl := dw_s1 h
      exact dw_zret C0 Z hr hlk rfl dX4_leadsTo_51
  have L5 : ∀ (n5 : Nat) (x1 : Int32) (x2 : Int32) (H : Heap) (locs : List Loc) (ls : Array Slot), dw_Z Γ (dw_A Γ) s.heap μ H locs → lv_has ls 5 [(0, .ref (dw_ad Γ 11)), (2, .int a2), (3, .int x1), (4, .int x2)] → dw_bd (dw_wh (fun v => sX4_leadsTo_5 μ a2 v.1 v.2) n5 (x1, x2)) kc5 = some r → W p l e (dw_rm 1 21) s m ([.ref (dw_ad Γ 11), .int a1, .int a2] : List Value).toArray below meth c H locs 0 0 (MQ below (dw_Qi Γ r μ) ([.ref (dw_ad Γ 11), .int a1, .int a2] : List Value).toArray s 0 0 (dw_A Γ)) (F0 m 5 ls []) := by
    clear h
    intro n5
    induction n5 with
    | zero =>
      intro x1 x2 H locs ls Z hl h
      exact (dw_wh0 h).elim
    | succ n5 ih5 =>
      intro x1 x2 H locs ls Z hl h
      obtain ⟨q5, hs, hq5⟩ := dw_whB h
      have h : sX4_leadsTo_5 μ a2 x1 x2 = some q5 := hs
      unfold sX4_leadsTo_5 at h
      refine lv_iload hx hb dX4_leadsTo_5 (lv_at hl 3 rfl) ?_
      refine lv_bipush (v := (20 : Int32)) hx hb dX4_leadsTo_7 (by decide) ?_
      refine lv_icmp_ge (tgt := 41) hx hb dX4_leadsTo_9 (by decide) (fun c3 => ?_) (fun c3 => ?_)
      · have h := dw_ifT c3 h
        obtain rfl := dw_s1 h
        exact E5 x1 H locs ls Z (lv_sub hl [1, 2] rfl) hq5
      · have h := dw_ifF c3 h
        refine lv_aload_n hx hb dX4_leadsTo_12 rfl (lv_at hl 0 rfl) ?_
        refine lv_iload_n hx hb dX4_leadsTo_13 rfl (lv_at hl 2 rfl) ?_
        refine dw_cVi C0 Z dw_hA (dw_lt dw_kc11 (by decide)) (dw_cz4 dw_kc11) rfl (As := [.int x1]) (rest := []) (kX4_hasPipe l Γ hj μ x1 rfl) (dw_gV tw_lX4_26 tw_vX4_hasPipe tw_eX4_hasPipe tw_iX4 tw_kX4_hasPipe) dw_hX4_hasPipe ⟨Nat.le_of_ble_eq_true rfl, Nat.le_of_ble_eq_true rfl⟩ ⟨Nat.zero_le _, Nat.zero_le _⟩ hl.1 (Nat.le_of_ble_eq_true rfl) rfl dX4_leadsTo_14 (fun H locs Z => ?_)
        refine lv_if_eq (tgt := 41) hx hb dX4_leadsTo_17 (by decide) (fun c4 => ?_) (fun c4 => ?_)
        · have h := dw_ifT c4 h
          obtain rfl := dw_s1 h
          exact E5 x1 H locs ls Z (lv_sub hl [1, 2] rfl) hq5
        · have h := dw_ifF c4 h
          refine lv_iload_n hx hb dX4_leadsTo_20 rfl (lv_at hl 2 rfl) ?_
          refine lv_iload_n hx hb dX4_leadsTo_21 rfl (lv_at hl 1 rfl) ?_
          refine lv_icmp_eq (tgt := 41) hx hb dX4_leadsTo_22 (by decide) (fun c5 => ?_) (fun c5 => ?_)
          · have h := dw_ifT c5 h
            obtain rfl := dw_s1 h
            exact E5 x1 H locs ls Z (lv_sub hl [1, 2] rfl) hq5
          · have h := dw_ifF c5 h
            refine lv_aload_n hx hb dX4_leadsTo_25 rfl (lv_at hl 0 rfl) ?_
            refine dw_g4_0 (t := 12) C0 Z dw_kc11 tw_fX4_11 rfl dX4_leadsTo_26 ?_
            refine lv_iload_n hx hb dX4_leadsTo_29 rfl (lv_at hl 2 rfl) ?_
            obtain ⟨g6, h⟩ := dw_gdS h
            refine dw_aald C0 Z dw_kc12 g6 dX4_leadsTo_30 ?_
            refine dw_g5_5 C0 Z (dw_pk dw_kc12 (dw_ok_lt g6)) tw_fX4_30 dX4_leadsTo_31 ?_
            refine lv_topi (fun x7 ex7 => ?_)
            have h := dw_nmS ex7 h
            refine lv_istore_n (lv' := [(3, .int x7), (0, .ref (dw_ad Γ 11)), (2, .int a2), (4, .int x2)]) hx hb dX4_leadsTo_34 rfl hl (by decide) rfl (fun ls hl => ?_)
            obtain ⟨x8, ex8⟩ := dw_eg (x2 + (1 : Int32))
            have h := dw_nmS ex8 h
            refine lv_iinc (v := x8) (lv' := [(4, .int x8), (3, .int x7), (0, .ref (dw_ad Γ 11)), (2, .int a2)]) hx hb dX4_leadsTo_35 hl (k := 3) rfl (by rw [ex8]; rfl) (by decide) rfl (fun ls hl => ?_)
            refine lv_goto (tgt := 5) hx hb dX4_leadsTo_38 (by decide) ?_
            obtain rfl := dw_s1 h
            exact ih5 x7 x8 H locs ls Z (lv_sub hl [2, 3, 1, 0] rfl) hq5
  exact L5 1000 a1 (0 : Int32) H locs ls Z (lv_sub hl [2, 4, 1, 0] rfl) h

def sX4_peakOf_4 (μ : dw_M) (a1 : Int32) (x1 : Int32) (x2 : Int32) : Option ((Int32 × Int32) ⊕ ((Int32))) :=
  if (μ.1 11 1) ≤ x2 then (
  some (.inr x1))
  else (
  dw_gd (dw_ok x2 20) (
  if (μ.1 (12 + 1 + 2 * x2.toNatClampNeg) 5) = a1 then (
  dw_nm (x1 + (μ.1 (12 + 1 + 2 * x2.toNatClampNeg) 3)) (fun x7 =>
  dw_nm (x2 + (1 : Int32)) (fun x8 =>
  some (.inl (x7, x8)))))
  else (
  dw_nm (x2 + (1 : Int32)) (fun x6 =>
  some (.inl (x1, x6))))))
def fX4_peakOf (μ : dw_M) (a1 : Int32) : Option (Int32) :=
  dw_bd (dw_wh (fun v => sX4_peakOf_4 μ a1 v.1 v.2) 1000 ((0 : Int32), (0 : Int32)))
    (fun x9 => dw_gd (dw_ok a1 20) (
  some (dw_mn x9 (μ.1 (12 + 1 + 2 * a1.toNatClampNeg) 3))))
set_option maxHeartbeats 4000000 in
set_option maxRecDepth 100000 in
theorem kX4_peakOf (l : Launch) (Γ : dw_G) (hj : dw_inj Γ) (μ : dw_M) (a1 : Int32) {r : Int32} (h : fX4_peakOf μ a1 = some r) : Met l yX4_peakOf (dw_ws yX4_peakOf cX4_peakOf 4 (some .int)) (dw_rm 1 24) (dw_P Γ ([.ref (dw_ad Γ 11), .int a1] : List Value) μ) (dw_Qi Γ r μ) 0 0 (dw_A Γ) := by
  refine dw_met (own := RX4) rfl rfl (Nat.le_of_ble_eq_true rfl) hj ?_
  intro p e s m below meth c C0 hr hlk Z ls hl
  have hx := C0.1
  have hb := C0.2.1
  have hl : lv_has ls 4 [(0, .ref (dw_ad Γ 11)), (1, .int a1)] := hl
  suffices key : ∀ (H : Heap) (locs : List Loc), dw_Z Γ (dw_A Γ) s.heap μ H locs → W p l e (dw_rm 1 24) s m ([.ref (dw_ad Γ 11), .int a1] : List Value).toArray below meth c H locs 0 0 (MQ below (dw_Qi Γ r μ) ([.ref (dw_ad Γ 11), .int a1] : List Value).toArray s 0 0 (dw_A Γ)) (F0 m 0 ls []) from key _ _ Z
  clear Z
  intro H locs Z
  unfold fX4_peakOf at h
  refine lv_iconst (v := (0 : Int32)) hx hb dX4_peakOf_0 (by decide) ?_
  refine lv_istore_n (lv' := [(2, .int (0 : Int32)), (0, .ref (dw_ad Γ 11)), (1, .int a1)]) hx hb dX4_peakOf_1 rfl hl (by decide) rfl (fun ls hl => ?_)
  refine lv_iconst (v := (0 : Int32)) hx hb dX4_peakOf_2 (by decide) ?_
  refine lv_istore_n (lv' := [(3, .int (0 : Int32)), (2, .int (0 : Int32)), (0, .ref (dw_ad Γ 11)), (1, .int a1)]) hx hb dX4_peakOf_3 rfl hl (by decide) rfl (fun ls hl => ?_)
  obtain ⟨kc4, ekc4, h⟩ := dw_bdK h
  have E4 : ∀ (x9 : Int32) (H : Heap) (locs : List Loc) (ls : Array Slot), dw_Z Γ (dw_A Γ) s.heap μ H locs → lv_has ls 4 [(0, .ref (dw_ad Γ 11)), (1, .int a1), (2, .int x9)] → kc4 x9 = some r → W p l e (dw_rm 1 24) s m ([.ref (dw_ad Γ 11), .int a1] : List Value).toArray below meth c H locs 0 0 (MQ below (dw_Qi Γ r μ) ([.ref (dw_ad Γ 11), .int a1] : List Value).toArray s 0 0 (dw_A Γ)) (F0 m 43 ls []) := by
    intro x9 H locs ls Z hl h
    rw [ekc4] at h
    dsimp only at h
    refine lv_iload_n hx hb dX4_peakOf_43 rfl (lv_at hl 2 rfl) ?_
    refine lv_aload_n hx hb dX4_peakOf_44 rfl (lv_at hl 0 rfl) ?_
    refine dw_g4_0 (t := 12) C0 Z dw_kc11 tw_fX4_11 rfl dX4_peakOf_45 ?_
    refine lv_iload_n hx hb dX4_peakOf_48 rfl (lv_at hl 1 rfl) ?_
    obtain ⟨g10, h⟩ := dw_gdS h
    refine dw_aald C0 Z dw_kc12 g10 dX4_peakOf_49 ?_
    refine dw_g5_3 C0 Z (dw_pk dw_kc12 (dw_ok_lt g10)) tw_fX4_33 dX4_peakOf_50 ?_
    refine dw_mmin C0 hl.1 tw_lX4_36 (Nat.le_of_ble_eq_true rfl) (Nat.le_of_ble_eq_true rfl) ⟨Nat.zero_le _, Nat.zero_le _⟩ dX4_peakOf_53 ?_
    obtain rfl := dw_s1 h
    exact dw_iret C0 Z hr hlk dX4_peakOf_56
  have L4 : ∀ (n4 : Nat) (x1 : Int32) (x2 : Int32) (H : Heap) (locs : List Loc) (ls : Array Slot), dw_Z Γ (dw_A Γ) s.heap μ H locs → lv_has ls 4 [(0, .ref (dw_ad Γ 11)), (1, .int a1), (2, .int x1), (3, .int x2)] → dw_bd (dw_wh (fun v => sX4_peakOf_4 μ a1 v.1 v.2) n4 (x1, x2)) kc4 = some r → W p l e (dw_rm 1 24) s m ([.ref (dw_ad Γ 11), .int a1] : List Value).toArray below meth c H locs 0 0 (MQ below (dw_Qi Γ r μ) ([.ref (dw_ad Γ 11), .int a1] : List Value).toArray s 0 0 (dw_A Γ)) (F0 m 4 ls []) := by
    clear h
    intro n4
    induction n4 with
    | zero =>
      intro x1 x2 H locs ls Z hl h
      exact (dw_wh0 h).elim
    | succ n4 ih4 =>
      intro x1 x2 H locs ls Z hl h
      obtain ⟨q4, hs, hq4⟩ := dw_whB h
      have h : sX4_peakOf_4 μ a1 x1 x2 = some q4 := hs
      unfold sX4_peakOf_4 at h
      refine lv_iload_n hx hb dX4_peakOf_4 rfl (lv_at hl 3 rfl) ?_
      refine lv_aload_n hx hb dX4_peakOf_5 rfl (lv_at hl 0 rfl) ?_
      refine dw_g4_1 C0 Z dw_kc11 tw_fX4_18 dX4_peakOf_6 ?_
      refine lv_icmp_ge (tgt := 43) hx hb dX4_peakOf_9 (by decide) (fun c3 => ?_) (fun c3 => ?_)
      · have h := dw_ifT c3 h
        obtain rfl := dw_s1 h
        exact E4 x1 H locs ls Z (lv_sub hl [0, 1, 2] rfl) hq4
      · have h := dw_ifF c3 h
        refine lv_aload_n hx hb dX4_peakOf_12 rfl (lv_at hl 0 rfl) ?_
        refine dw_g4_0 (t := 12) C0 Z dw_kc11 tw_fX4_11 rfl dX4_peakOf_13 ?_
        refine lv_iload_n hx hb dX4_peakOf_16 rfl (lv_at hl 3 rfl) ?_
        obtain ⟨g4, h⟩ := dw_gdS h
        refine dw_aald C0 Z dw_kc12 g4 dX4_peakOf_17 ?_
        refine dw_g5_5 C0 Z (dw_pk dw_kc12 (dw_ok_lt g4)) tw_fX4_30 dX4_peakOf_18 ?_
        refine lv_iload_n hx hb dX4_peakOf_21 rfl (lv_at hl 1 rfl) ?_
        refine lv_icmp_ne (tgt := 37) hx hb dX4_peakOf_22 (by decide) (fun c5 => ?_) (fun c5 => ?_)
        · have h := dw_ifF c5 h
          obtain ⟨x6, ex6⟩ := dw_eg (x2 + (1 : Int32))
          have h := dw_nmS ex6 h
          refine lv_iinc (v := x6) (lv' := [(3, .int x6), (0, .ref (dw_ad Γ 11)), (1, .int a1), (2, .int x1)]) hx hb dX4_peakOf_37 hl (k := 3) rfl (by rw [ex6]; rfl) (by decide) rfl (fun ls hl => ?_)
          refine lv_goto (tgt := 4) hx hb dX4_peakOf_40 (by decide) ?_
          obtain rfl := dw_s1 h
          exact ih4 x1 x6 H locs ls Z (lv_sub hl [1, 2, 3, 0] rfl) hq4
        · have h := dw_ifT c5 h
          refine lv_iload_n hx hb dX4_peakOf_25 rfl (lv_at hl 2 rfl) ?_
          refine lv_aload_n hx hb dX4_peakOf_26 rfl (lv_at hl 0 rfl) ?_
          refine dw_g4_0 (t := 12) C0 Z dw_kc11 tw_fX4_11 rfl dX4_peakOf_27 ?_
          refine lv_iload_n hx hb dX4_peakOf_30 rfl (lv_at hl 3 rfl) ?_
          refine dw_aald C0 Z dw_kc12 g4 dX4_peakOf_31 ?_
          refine dw_g5_3 C0 Z (dw_pk dw_kc12 (dw_ok_lt g4)) tw_fX4_33 dX4_peakOf_32 ?_
          refine lv_iadd hx hb dX4_peakOf_35 ?_
          refine lv_topi (fun x7 ex7 => ?_)
          have h := dw_nmS ex7 h
          refine lv_istore_n (lv' := [(2, .int x7), (0, .ref (dw_ad Γ 11)), (1, .int a1), (3, .int x2)]) hx hb dX4_peakOf_36 rfl hl (by decide) rfl (fun ls hl => ?_)
          obtain ⟨x8, ex8⟩ := dw_eg (x2 + (1 : Int32))
          have h := dw_nmS ex8 h
          refine lv_iinc (v := x8) (lv' := [(3, .int x8), (2, .int x7), (0, .ref (dw_ad Γ 11)), (1, .int a1)]) hx hb dX4_peakOf_37 hl (k := 3) rfl (by rw [ex8]; rfl) (by decide) rfl (fun ls hl => ?_)
          refine lv_goto (tgt := 4) hx hb dX4_peakOf_40 (by decide) ?_
          obtain rfl := dw_s1 h
          exact ih4 x7 x8 H locs ls Z (lv_sub hl [2, 3, 1, 0] rfl) hq4
  exact L4 1000 (0 : Int32) (0 : Int32) H locs ls Z (lv_sub hl [2, 3, 1, 0] rfl) h

def fX5_lay (μ : dw_M) (i : Nat) (j : Nat) (a1 : Int32) (a2 : Int32) : dw_M :=
  dw_nm (fX3_copyFrom μ (i + 1) j) (fun μ1 =>
  dw_nm (dw_st μ1 i 1 a1) (fun μ2 =>
  dw_nm (dw_st μ2 i 2 a2) (fun μ3 =>
  dw_nm (dw_st μ3 i 3 (((μ3.1 i 2) * (μ3.1 i 2)) * ((μ3.1 (i + 1) 4) + (5 : Int32)))) (fun μ4 =>
  dw_nm (dw_st μ4 i 4 (((40 : Int32) * (μ4.1 i 2)) * (μ4.1 (i + 1) 2))) (fun μ5 =>
  dw_nm (dw_st μ5 i 5 (-1 : Int32)) (fun μ6 =>
   μ6))))))
set_option maxHeartbeats 4000000 in
set_option maxRecDepth 100000 in
theorem kX5_lay (l : Launch) (Γ : dw_G) (hj : dw_inj Γ) (μ : dw_M) (i : Nat) (hk_i : dw_kd i = 5) (j : Nat) (hk_j : dw_kd j = 3) (a1 : Int32) (a2 : Int32) {ν : dw_M} (h : fX5_lay μ i j a1 a2 = ν) : Met l yX5_lay (dw_ws yX5_lay cX5_lay 4 none) (dw_rm 2 46) (dw_P Γ ([.ref (dw_ad Γ i), .ref (dw_ad Γ j), .int a1, .int a2] : List Value) μ) (dw_Qv Γ ν) 0 0 (dw_A Γ) := by
  refine dw_met (own := RX5) rfl rfl (Nat.le_of_ble_eq_true rfl) hj ?_
  intro p e s m below meth c C0 hr hlk Z ls hl
  have hx := C0.1
  have hb := C0.2.1
  have hl : lv_has ls 4 [(0, .ref (dw_ad Γ i)), (1, .ref (dw_ad Γ j)), (2, .int a1), (3, .int a2)] := hl
  suffices key : ∀ (H : Heap) (locs : List Loc), dw_Z Γ (dw_A Γ) s.heap μ H locs → W p l e (dw_rm 2 46) s m ([.ref (dw_ad Γ i), .ref (dw_ad Γ j), .int a1, .int a2] : List Value).toArray below meth c H locs 0 0 (MQ below (dw_Qv Γ ν) ([.ref (dw_ad Γ i), .ref (dw_ad Γ j), .int a1, .int a2] : List Value).toArray s 0 0 (dw_A Γ)) (F0 m 0 ls []) from key _ _ Z
  clear Z
  intro H locs Z
  unfold fX5_lay at h
  refine lv_aload_n hx hb dX5_lay_0 rfl (lv_at hl 0 rfl) ?_
  refine dw_g5_0 (t := (i + 1)) C0 Z hk_i tw_fX5_12 rfl dX5_lay_1 ?_
  refine lv_aload_n hx hb dX5_lay_4 rfl (lv_at hl 1 rfl) ?_
  obtain ⟨μ1, eμ1⟩ := dw_eg (fX3_copyFrom μ (i + 1) j)
  have h := dw_nmS eμ1 h
  refine dw_cVv C0 Z dw_hA (dw_lt (dw_r5_0 hk_i) (by decide)) (dw_cz3 (dw_r5_0 hk_i)) rfl (As := [.ref (dw_ad Γ j)]) (rest := []) (kX3_copyFrom l Γ hj μ (i + 1) (dw_r5_0 hk_i) j hk_j eμ1.symm) (dw_gV tw_lX5_18 tw_vX3_copyFrom tw_eX3_copyFrom tw_iX3 tw_kX3_copyFrom) dw_hX3_copyFrom ⟨Nat.le_of_ble_eq_true rfl, Nat.le_of_ble_eq_true rfl⟩ ⟨Nat.zero_le _, Nat.zero_le _⟩ hl.1 (Nat.le_of_ble_eq_true rfl) rfl dX5_lay_5 (fun H locs Z => ?_)
  refine lv_aload_n hx hb dX5_lay_8 rfl (lv_at hl 0 rfl) ?_
  refine lv_iload_n hx hb dX5_lay_9 rfl (lv_at hl 2 rfl) ?_
  refine dw_p5_1 C0 Z dw_hA hk_i tw_fX5_22 dX5_lay_10 (fun μ2 eμ2 H locs Z => ?_)
  have h := dw_nmS eμ2 h
  refine lv_aload_n hx hb dX5_lay_13 rfl (lv_at hl 0 rfl) ?_
  refine lv_iload_n hx hb dX5_lay_14 rfl (lv_at hl 3 rfl) ?_
  refine dw_p5_2 C0 Z dw_hA hk_i tw_fX5_26 dX5_lay_15 (fun μ3 eμ3 H locs Z => ?_)
  have h := dw_nmS eμ3 h
  refine lv_aload_n hx hb dX5_lay_18 rfl (lv_at hl 0 rfl) ?_
  refine lv_aload_n hx hb dX5_lay_19 rfl (lv_at hl 0 rfl) ?_
  refine dw_g5_2 C0 Z hk_i tw_fX5_26 dX5_lay_20 ?_
  refine lv_aload_n hx hb dX5_lay_23 rfl (lv_at hl 0 rfl) ?_
  refine dw_g5_2 C0 Z hk_i tw_fX5_26 dX5_lay_24 ?_
  refine lv_imul hx hb dX5_lay_27 ?_
  refine lv_aload_n hx hb dX5_lay_28 rfl (lv_at hl 0 rfl) ?_
  refine dw_g5_0 (t := (i + 1)) C0 Z hk_i tw_fX5_12 rfl dX5_lay_29 ?_
  refine dw_g3_4 C0 Z (dw_r5_0 hk_i) tw_fX5_29 dX5_lay_32 ?_
  refine lv_iconst (v := (5 : Int32)) hx hb dX5_lay_35 (by decide) ?_
  refine lv_iadd hx hb dX5_lay_36 ?_
  refine lv_imul hx hb dX5_lay_37 ?_
  refine dw_p5_3 C0 Z dw_hA hk_i tw_fX5_32 dX5_lay_38 (fun μ4 eμ4 H locs Z => ?_)
  have h := dw_nmS eμ4 h
  refine lv_aload_n hx hb dX5_lay_41 rfl (lv_at hl 0 rfl) ?_
  refine lv_bipush (v := (40 : Int32)) hx hb dX5_lay_42 (by decide) ?_
  refine lv_aload_n hx hb dX5_lay_44 rfl (lv_at hl 0 rfl) ?_
  refine dw_g5_2 C0 Z hk_i tw_fX5_26 dX5_lay_45 ?_
  refine lv_imul hx hb dX5_lay_48 ?_
  refine lv_aload_n hx hb dX5_lay_49 rfl (lv_at hl 0 rfl) ?_
  refine dw_g5_0 (t := (i + 1)) C0 Z hk_i tw_fX5_12 rfl dX5_lay_50 ?_
  refine dw_g3_2 C0 Z (dw_r5_0 hk_i) tw_fX5_35 dX5_lay_53 ?_
  refine lv_imul hx hb dX5_lay_56 ?_
  refine dw_p5_4 C0 Z dw_hA hk_i tw_fX5_38 dX5_lay_57 (fun μ5 eμ5 H locs Z => ?_)
  have h := dw_nmS eμ5 h
  refine lv_aload_n hx hb dX5_lay_60 rfl (lv_at hl 0 rfl) ?_
  refine lv_iconst (v := (-1 : Int32)) hx hb dX5_lay_61 (by decide) ?_
  refine dw_p5_5 C0 Z dw_hA hk_i tw_fX5_41 dX5_lay_62 (fun μ6 eμ6 H locs Z => ?_)
  have h := dw_nmS eμ6 h
  obtain rfl := dw_t1 h
  exact dw_vret C0 Z hr hlk dX5_lay_65

def fX5_isMain (μ : dw_M) (i : Nat) : Int32 :=
  if (μ.1 i 1) = (1 : Int32) then (
   (1 : Int32))
  else (
  if (μ.1 i 1) = (3 : Int32) then (
   (1 : Int32))
  else (
   (0 : Int32)))
set_option maxHeartbeats 4000000 in
set_option maxRecDepth 100000 in
theorem kX5_isMain (l : Launch) (Γ : dw_G) (hj : dw_inj Γ) (μ : dw_M) (i : Nat) (hk_i : dw_kd i = 5) {r : Int32} (h : fX5_isMain μ i = r) : Met l yX5_isMain (dw_ws yX5_isMain cX5_isMain 1 (some .boolean)) (dw_rm 0 0) (dw_P Γ ([.ref (dw_ad Γ i)] : List Value) μ) (dw_Qi Γ r μ) 0 0 (dw_A Γ) := by
  refine dw_met (own := RX5) rfl rfl (Nat.le_of_ble_eq_true rfl) hj ?_
  intro p e s m below meth c C0 hr hlk Z ls hl
  have hx := C0.1
  have hb := C0.2.1
  have hl : lv_has ls 1 [(0, .ref (dw_ad Γ i))] := hl
  suffices key : ∀ (H : Heap) (locs : List Loc), dw_Z Γ (dw_A Γ) s.heap μ H locs → W p l e (dw_rm 0 0) s m ([.ref (dw_ad Γ i)] : List Value).toArray below meth c H locs 0 0 (MQ below (dw_Qi Γ r μ) ([.ref (dw_ad Γ i)] : List Value).toArray s 0 0 (dw_A Γ)) (F0 m 0 ls []) from key _ _ Z
  clear Z
  intro H locs Z
  unfold fX5_isMain at h
  refine lv_aload_n hx hb dX5_isMain_0 rfl (lv_at hl 0 rfl) ?_
  refine dw_g5_1 C0 Z hk_i tw_fX5_22 dX5_isMain_1 ?_
  refine lv_iconst (v := (1 : Int32)) hx hb dX5_isMain_4 (by decide) ?_
  refine lv_icmp_eq (tgt := 16) hx hb dX5_isMain_5 (by decide) (fun c1 => ?_) (fun c1 => ?_)
  · have h := dw_ifT c1 h
    refine lv_iconst (v := (1 : Int32)) hx hb dX5_isMain_16 (by decide) ?_
    refine lv_goto (tgt := 21) hx hb dX5_isMain_17 (by decide) ?_
    obtain rfl := dw_t1 h
    exact dw_zret C0 Z hr hlk rfl dX5_isMain_21
  · have h := dw_ifF c1 h
    refine lv_aload_n hx hb dX5_isMain_8 rfl (lv_at hl 0 rfl) ?_
    refine dw_g5_1 C0 Z hk_i tw_fX5_22 dX5_isMain_9 ?_
    refine lv_iconst (v := (3 : Int32)) hx hb dX5_isMain_12 (by decide) ?_
    refine lv_icmp_ne (tgt := 20) hx hb dX5_isMain_13 (by decide) (fun c2 => ?_) (fun c2 => ?_)
    · have h := dw_ifF c2 h
      refine lv_iconst (v := (0 : Int32)) hx hb dX5_isMain_20 (by decide) ?_
      obtain rfl := dw_t1 h
      exact dw_zret C0 Z hr hlk rfl dX5_isMain_21
    · have h := dw_ifT c2 h
      refine lv_iconst (v := (1 : Int32)) hx hb dX5_isMain_16 (by decide) ?_
      refine lv_goto (tgt := 21) hx hb dX5_isMain_17 (by decide) ?_
      obtain rfl := dw_t1 h
      exact dw_zret C0 Z hr hlk rfl dX5_isMain_21
theorem zX5_isMain (μ : dw_M) (i : Nat) : narrow .boolean (.int (fX5_isMain μ i)) = .int (fX5_isMain μ i) := by
  unfold fX5_isMain
  repeat' split
  all_goals first | rfl

def fX8_copyFrom (μ : dw_M) (i : Nat) (j : Nat) : Option (dw_M) :=
  dw_bd (fX9_copy μ (j + 1) (i + 1)) (fun μ2 =>
  dw_bd (fX9_copy μ2 (j + 2) (i + 2)) (fun μ4 =>
  dw_bd (fX9_copy μ4 (j + 3) (i + 3)) (fun μ6 =>
  dw_bd (fX9_copy μ6 (j + 4) (i + 4)) (fun μ8 =>
  dw_bd (fX9_copy μ8 (j + 5) (i + 5)) (fun μ10 =>
  dw_bd (fX9_copy μ10 (j + 6) (i + 6)) (fun μ12 =>
  dw_nm (fX2_copyFrom μ12 (i + 7) (j + 7)) (fun μ13 =>
  dw_nm (dw_st μ13 i 7 (μ13.1 j 7)) (fun μ14 =>
  dw_nm (dw_st μ14 i 8 (μ14.1 j 8)) (fun μ15 =>
  some μ15)))))))))
set_option maxHeartbeats 4000000 in
set_option maxRecDepth 100000 in
theorem kX8_copyFrom (l : Launch) (Γ : dw_G) (hj : dw_inj Γ) (μ : dw_M) (i : Nat) (hk_i : dw_kd i = 8) (j : Nat) (hk_j : dw_kd j = 8) {ν : dw_M} (h : fX8_copyFrom μ i j = some ν) : Met l yX8_copyFrom (dw_ws yX8_copyFrom cX8_copyFrom 2 none) (dw_rm 2 47) (dw_P Γ ([.ref (dw_ad Γ i), .ref (dw_ad Γ j)] : List Value) μ) (dw_Qv Γ ν) 0 0 (dw_A Γ) := by
  refine dw_met (own := RX8) rfl rfl (Nat.le_of_ble_eq_true rfl) hj ?_
  intro p e s m below meth c C0 hr hlk Z ls hl
  have hx := C0.1
  have hb := C0.2.1
  have hl : lv_has ls 2 [(0, .ref (dw_ad Γ i)), (1, .ref (dw_ad Γ j))] := hl
  suffices key : ∀ (H : Heap) (locs : List Loc), dw_Z Γ (dw_A Γ) s.heap μ H locs → W p l e (dw_rm 2 47) s m ([.ref (dw_ad Γ i), .ref (dw_ad Γ j)] : List Value).toArray below meth c H locs 0 0 (MQ below (dw_Qv Γ ν) ([.ref (dw_ad Γ i), .ref (dw_ad Γ j)] : List Value).toArray s 0 0 (dw_A Γ)) (F0 m 0 ls []) from key _ _ Z
  clear Z
  intro H locs Z
  unfold fX8_copyFrom at h
  refine lv_aload_n hx hb dX8_copyFrom_0 rfl (lv_at hl 1 rfl) ?_
  refine dw_g8_0 (t := (j + 1)) C0 Z hk_j tw_fX8_9 rfl dX8_copyFrom_1 ?_
  refine lv_aload_n hx hb dX8_copyFrom_4 rfl (lv_at hl 0 rfl) ?_
  refine dw_g8_0 (t := (i + 1)) C0 Z hk_i tw_fX8_9 rfl dX8_copyFrom_5 ?_
  obtain ⟨μ2, hc1, h⟩ := dw_bdS h
  refine dw_cNv (host := RX9) C0 Z dw_hA (As := [.ref (dw_ad Γ (j + 1)), .ref (dw_ad Γ (i + 1))]) (rest := []) (kX9_copy l Γ hj μ (j + 1) (dw_r8_0 hk_j) (i + 1) (dw_r8_0 hk_i) hc1) (by decide +kernel) tw_kX9_copy tw_iX9 tw_sX9_copy dw_hX9_copy ⟨Nat.le_of_ble_eq_true rfl, Nat.le_of_ble_eq_true rfl⟩ ⟨Nat.zero_le _, Nat.zero_le _⟩ hl.1 (Nat.le_of_ble_eq_true rfl) rfl dX8_copyFrom_8 (fun H locs Z => ?_)
  refine lv_aload_n hx hb dX8_copyFrom_11 rfl (lv_at hl 1 rfl) ?_
  refine dw_g8_1 (t := (j + 2)) C0 Z hk_j tw_fX8_15 rfl dX8_copyFrom_12 ?_
  refine lv_aload_n hx hb dX8_copyFrom_15 rfl (lv_at hl 0 rfl) ?_
  refine dw_g8_1 (t := (i + 2)) C0 Z hk_i tw_fX8_15 rfl dX8_copyFrom_16 ?_
  obtain ⟨μ4, hc3, h⟩ := dw_bdS h
  refine dw_cNv (host := RX9) C0 Z dw_hA (As := [.ref (dw_ad Γ (j + 2)), .ref (dw_ad Γ (i + 2))]) (rest := []) (kX9_copy l Γ hj μ2 (j + 2) (dw_r8_1 hk_j) (i + 2) (dw_r8_1 hk_i) hc3) (by decide +kernel) tw_kX9_copy tw_iX9 tw_sX9_copy dw_hX9_copy ⟨Nat.le_of_ble_eq_true rfl, Nat.le_of_ble_eq_true rfl⟩ ⟨Nat.zero_le _, Nat.zero_le _⟩ hl.1 (Nat.le_of_ble_eq_true rfl) rfl dX8_copyFrom_19 (fun H locs Z => ?_)
  refine lv_aload_n hx hb dX8_copyFrom_22 rfl (lv_at hl 1 rfl) ?_
  refine dw_g8_2 (t := (j + 3)) C0 Z hk_j tw_fX8_18 rfl dX8_copyFrom_23 ?_
  refine lv_aload_n hx hb dX8_copyFrom_26 rfl (lv_at hl 0 rfl) ?_
  refine dw_g8_2 (t := (i + 3)) C0 Z hk_i tw_fX8_18 rfl dX8_copyFrom_27 ?_
  obtain ⟨μ6, hc5, h⟩ := dw_bdS h
  refine dw_cNv (host := RX9) C0 Z dw_hA (As := [.ref (dw_ad Γ (j + 3)), .ref (dw_ad Γ (i + 3))]) (rest := []) (kX9_copy l Γ hj μ4 (j + 3) (dw_r8_2 hk_j) (i + 3) (dw_r8_2 hk_i) hc5) (by decide +kernel) tw_kX9_copy tw_iX9 tw_sX9_copy dw_hX9_copy ⟨Nat.le_of_ble_eq_true rfl, Nat.le_of_ble_eq_true rfl⟩ ⟨Nat.zero_le _, Nat.zero_le _⟩ hl.1 (Nat.le_of_ble_eq_true rfl) rfl dX8_copyFrom_30 (fun H locs Z => ?_)
  refine lv_aload_n hx hb dX8_copyFrom_33 rfl (lv_at hl 1 rfl) ?_
  refine dw_g8_3 (t := (j + 4)) C0 Z hk_j tw_fX8_21 rfl dX8_copyFrom_34 ?_
  refine lv_aload_n hx hb dX8_copyFrom_37 rfl (lv_at hl 0 rfl) ?_
  refine dw_g8_3 (t := (i + 4)) C0 Z hk_i tw_fX8_21 rfl dX8_copyFrom_38 ?_
  obtain ⟨μ8, hc7, h⟩ := dw_bdS h
  refine dw_cNv (host := RX9) C0 Z dw_hA (As := [.ref (dw_ad Γ (j + 4)), .ref (dw_ad Γ (i + 4))]) (rest := []) (kX9_copy l Γ hj μ6 (j + 4) (dw_r8_3 hk_j) (i + 4) (dw_r8_3 hk_i) hc7) (by decide +kernel) tw_kX9_copy tw_iX9 tw_sX9_copy dw_hX9_copy ⟨Nat.le_of_ble_eq_true rfl, Nat.le_of_ble_eq_true rfl⟩ ⟨Nat.zero_le _, Nat.zero_le _⟩ hl.1 (Nat.le_of_ble_eq_true rfl) rfl dX8_copyFrom_41 (fun H locs Z => ?_)
  refine lv_aload_n hx hb dX8_copyFrom_44 rfl (lv_at hl 1 rfl) ?_
  refine dw_g8_4 (t := (j + 5)) C0 Z hk_j tw_fX8_24 rfl dX8_copyFrom_45 ?_
  refine lv_aload_n hx hb dX8_copyFrom_48 rfl (lv_at hl 0 rfl) ?_
  refine dw_g8_4 (t := (i + 5)) C0 Z hk_i tw_fX8_24 rfl dX8_copyFrom_49 ?_
  obtain ⟨μ10, hc9, h⟩ := dw_bdS h
  refine dw_cNv (host := RX9) C0 Z dw_hA (As := [.ref (dw_ad Γ (j + 5)), .ref (dw_ad Γ (i + 5))]) (rest := []) (kX9_copy l Γ hj μ8 (j + 5) (dw_r8_4 hk_j) (i + 5) (dw_r8_4 hk_i) hc9) (by decide +kernel) tw_kX9_copy tw_iX9 tw_sX9_copy dw_hX9_copy ⟨Nat.le_of_ble_eq_true rfl, Nat.le_of_ble_eq_true rfl⟩ ⟨Nat.zero_le _, Nat.zero_le _⟩ hl.1 (Nat.le_of_ble_eq_true rfl) rfl dX8_copyFrom_52 (fun H locs Z => ?_)
  refine lv_aload_n hx hb dX8_copyFrom_55 rfl (lv_at hl 1 rfl) ?_
  refine dw_g8_5 (t := (j + 6)) C0 Z hk_j tw_fX8_27 rfl dX8_copyFrom_56 ?_
  refine lv_aload_n hx hb dX8_copyFrom_59 rfl (lv_at hl 0 rfl) ?_
  refine dw_g8_5 (t := (i + 6)) C0 Z hk_i tw_fX8_27 rfl dX8_copyFrom_60 ?_
  obtain ⟨μ12, hc11, h⟩ := dw_bdS h
  refine dw_cNv (host := RX9) C0 Z dw_hA (As := [.ref (dw_ad Γ (j + 6)), .ref (dw_ad Γ (i + 6))]) (rest := []) (kX9_copy l Γ hj μ10 (j + 6) (dw_r8_5 hk_j) (i + 6) (dw_r8_5 hk_i) hc11) (by decide +kernel) tw_kX9_copy tw_iX9 tw_sX9_copy dw_hX9_copy ⟨Nat.le_of_ble_eq_true rfl, Nat.le_of_ble_eq_true rfl⟩ ⟨Nat.zero_le _, Nat.zero_le _⟩ hl.1 (Nat.le_of_ble_eq_true rfl) rfl dX8_copyFrom_63 (fun H locs Z => ?_)
  refine lv_aload_n hx hb dX8_copyFrom_66 rfl (lv_at hl 0 rfl) ?_
  refine dw_g8_6 (t := (i + 7)) C0 Z hk_i tw_fX8_33 rfl dX8_copyFrom_67 ?_
  refine lv_aload_n hx hb dX8_copyFrom_70 rfl (lv_at hl 1 rfl) ?_
  refine dw_g8_6 (t := (j + 7)) C0 Z hk_j tw_fX8_33 rfl dX8_copyFrom_71 ?_
  obtain ⟨μ13, eμ13⟩ := dw_eg (fX2_copyFrom μ12 (i + 7) (j + 7))
  have h := dw_nmS eμ13 h
  refine dw_cVv C0 Z dw_hA (dw_lt (dw_r8_6 hk_i) (by decide)) (dw_cz2 (dw_r8_6 hk_i)) rfl (As := [.ref (dw_ad Γ (j + 7))]) (rest := []) (kX2_copyFrom l Γ hj μ12 (i + 7) (dw_r8_6 hk_i) (j + 7) (dw_r8_6 hk_j) eμ13.symm) (dw_gV tw_lX8_55 tw_vX2_copyFrom tw_eX2_copyFrom tw_iX2 tw_kX2_copyFrom) dw_hX2_copyFrom ⟨Nat.le_of_ble_eq_true rfl, Nat.le_of_ble_eq_true rfl⟩ ⟨Nat.zero_le _, Nat.zero_le _⟩ hl.1 (Nat.le_of_ble_eq_true rfl) rfl dX8_copyFrom_74 (fun H locs Z => ?_)
  refine lv_aload_n hx hb dX8_copyFrom_77 rfl (lv_at hl 0 rfl) ?_
  refine lv_aload_n hx hb dX8_copyFrom_78 rfl (lv_at hl 1 rfl) ?_
  refine dw_g8_7 C0 Z hk_j tw_fX8_44 dX8_copyFrom_79 ?_
  refine dw_p8_7 C0 Z dw_hA hk_i tw_fX8_44 dX8_copyFrom_82 (fun μ14 eμ14 H locs Z => ?_)
  have h := dw_nmS eμ14 h
  refine lv_aload_n hx hb dX8_copyFrom_85 rfl (lv_at hl 0 rfl) ?_
  refine lv_aload_n hx hb dX8_copyFrom_86 rfl (lv_at hl 1 rfl) ?_
  refine dw_g8_8 C0 Z hk_j tw_fX8_48 dX8_copyFrom_87 ?_
  refine dw_p8_8 C0 Z dw_hA hk_i tw_fX8_48 dX8_copyFrom_90 (fun μ15 eμ15 H locs Z => ?_)
  have h := dw_nmS eμ15 h
  obtain rfl := dw_s1 h
  exact dw_vret C0 Z hr hlk dX8_copyFrom_93

def fX6_copyFrom (μ : dw_M) (i : Nat) (j : Nat) : Option (dw_M) :=
  dw_bd (fX1_copyFrom μ (i + 1) (j + 1)) (fun μ2 =>
  dw_nm (fX3_copyFrom μ2 (i + 9) (j + 9)) (fun μ3 =>
  dw_bd (fX4_copyFrom μ3 (i + 10) (j + 10)) (fun μ5 =>
  dw_bd (fX8_copyFrom μ5 (i + 52) (j + 52)) (fun μ7 =>
  dw_bd (fX9_copy μ7 (j + 60) (i + 60)) (fun μ9 =>
  dw_nm (fX2_copyFrom μ9 (i + 61) (j + 61)) (fun μ10 =>
  dw_nm (fX2_copyFrom μ10 (i + 62) (j + 62)) (fun μ11 =>
  some μ11)))))))
set_option maxHeartbeats 4000000 in
set_option maxRecDepth 100000 in
theorem kX6_copyFrom (l : Launch) (Γ : dw_G) (hj : dw_inj Γ) (μ : dw_M) (i : Nat) (hk_i : dw_kd i = 6) (j : Nat) (hk_j : dw_kd j = 6) {ν : dw_M} (h : fX6_copyFrom μ i j = some ν) : Met l yX6_copyFrom (dw_ws yX6_copyFrom cX6_copyFrom 2 none) (dw_rm 4 89) (dw_P Γ ([.ref (dw_ad Γ i), .ref (dw_ad Γ j)] : List Value) μ) (dw_Qv Γ ν) 0 0 (dw_A Γ) := by
  refine dw_met (own := RX6) rfl rfl (Nat.le_of_ble_eq_true rfl) hj ?_
  intro p e s m below meth c C0 hr hlk Z ls hl
  have hx := C0.1
  have hb := C0.2.1
  have hl : lv_has ls 2 [(0, .ref (dw_ad Γ i)), (1, .ref (dw_ad Γ j))] := hl
  suffices key : ∀ (H : Heap) (locs : List Loc), dw_Z Γ (dw_A Γ) s.heap μ H locs → W p l e (dw_rm 4 89) s m ([.ref (dw_ad Γ i), .ref (dw_ad Γ j)] : List Value).toArray below meth c H locs 0 0 (MQ below (dw_Qv Γ ν) ([.ref (dw_ad Γ i), .ref (dw_ad Γ j)] : List Value).toArray s 0 0 (dw_A Γ)) (F0 m 0 ls []) from key _ _ Z
  clear Z
  intro H locs Z
  unfold fX6_copyFrom at h
  refine lv_aload_n hx hb dX6_copyFrom_0 rfl (lv_at hl 0 rfl) ?_
  refine dw_g6_0 (t := (i + 1)) C0 Z hk_i tw_fX6_12 rfl dX6_copyFrom_1 ?_
  refine lv_aload_n hx hb dX6_copyFrom_4 rfl (lv_at hl 1 rfl) ?_
  refine dw_g6_0 (t := (j + 1)) C0 Z hk_j tw_fX6_12 rfl dX6_copyFrom_5 ?_
  obtain ⟨μ2, hc1, h⟩ := dw_bdS h
  refine dw_cVv C0 Z dw_hA (dw_lt (dw_r6_0 hk_i) (by decide)) (dw_cz1 (dw_r6_0 hk_i)) rfl (As := [.ref (dw_ad Γ (j + 1))]) (rest := []) (kX1_copyFrom l Γ hj μ (i + 1) (dw_r6_0 hk_i) (j + 1) (dw_r6_0 hk_j) hc1) (dw_gV tw_lX6_53 tw_vX1_copyFrom tw_eX1_copyFrom tw_iX1 tw_kX1_copyFrom) dw_hX1_copyFrom ⟨Nat.le_of_ble_eq_true rfl, Nat.le_of_ble_eq_true rfl⟩ ⟨Nat.zero_le _, Nat.zero_le _⟩ hl.1 (Nat.le_of_ble_eq_true rfl) rfl dX6_copyFrom_8 (fun H locs Z => ?_)
  refine lv_aload_n hx hb dX6_copyFrom_11 rfl (lv_at hl 0 rfl) ?_
  refine dw_g6_1 (t := (i + 9)) C0 Z hk_i tw_fX6_21 rfl dX6_copyFrom_12 ?_
  refine lv_aload_n hx hb dX6_copyFrom_15 rfl (lv_at hl 1 rfl) ?_
  refine dw_g6_1 (t := (j + 9)) C0 Z hk_j tw_fX6_21 rfl dX6_copyFrom_16 ?_
  obtain ⟨μ3, eμ3⟩ := dw_eg (fX3_copyFrom μ2 (i + 9) (j + 9))
  have h := dw_nmS eμ3 h
  refine dw_cVv C0 Z dw_hA (dw_lt (dw_r6_1 hk_i) (by decide)) (dw_cz3 (dw_r6_1 hk_i)) rfl (As := [.ref (dw_ad Γ (j + 9))]) (rest := []) (kX3_copyFrom l Γ hj μ2 (i + 9) (dw_r6_1 hk_i) (j + 9) (dw_r6_1 hk_j) eμ3.symm) (dw_gV tw_lX6_57 tw_vX3_copyFrom tw_eX3_copyFrom tw_iX3 tw_kX3_copyFrom) dw_hX3_copyFrom ⟨Nat.le_of_ble_eq_true rfl, Nat.le_of_ble_eq_true rfl⟩ ⟨Nat.zero_le _, Nat.zero_le _⟩ hl.1 (Nat.le_of_ble_eq_true rfl) rfl dX6_copyFrom_19 (fun H locs Z => ?_)
  refine lv_aload_n hx hb dX6_copyFrom_22 rfl (lv_at hl 0 rfl) ?_
  refine dw_g6_2 (t := (i + 10)) C0 Z hk_i tw_fX6_28 rfl dX6_copyFrom_23 ?_
  refine lv_aload_n hx hb dX6_copyFrom_26 rfl (lv_at hl 1 rfl) ?_
  refine dw_g6_2 (t := (j + 10)) C0 Z hk_j tw_fX6_28 rfl dX6_copyFrom_27 ?_
  obtain ⟨μ5, hc4, h⟩ := dw_bdS h
  refine dw_cVv C0 Z dw_hA (dw_lt (dw_r6_2 hk_i) (by decide)) (dw_cz4 (dw_r6_2 hk_i)) rfl (As := [.ref (dw_ad Γ (j + 10))]) (rest := []) (kX4_copyFrom l Γ hj μ3 (i + 10) (dw_r6_2 hk_i) (j + 10) (dw_r6_2 hk_j) hc4) (dw_gV tw_lX6_60 tw_vX4_copyFrom tw_eX4_copyFrom tw_iX4 tw_kX4_copyFrom) dw_hX4_copyFrom ⟨Nat.le_of_ble_eq_true rfl, Nat.le_of_ble_eq_true rfl⟩ ⟨Nat.zero_le _, Nat.zero_le _⟩ hl.1 (Nat.le_of_ble_eq_true rfl) rfl dX6_copyFrom_30 (fun H locs Z => ?_)
  refine lv_aload_n hx hb dX6_copyFrom_33 rfl (lv_at hl 0 rfl) ?_
  refine dw_g6_3 (t := (i + 52)) C0 Z hk_i tw_fX6_35 rfl dX6_copyFrom_34 ?_
  refine lv_aload_n hx hb dX6_copyFrom_37 rfl (lv_at hl 1 rfl) ?_
  refine dw_g6_3 (t := (j + 52)) C0 Z hk_j tw_fX6_35 rfl dX6_copyFrom_38 ?_
  obtain ⟨μ7, hc6, h⟩ := dw_bdS h
  refine dw_cVv C0 Z dw_hA (dw_lt (dw_r6_3 hk_i) (by decide)) (dw_cz8 (dw_r6_3 hk_i)) rfl (As := [.ref (dw_ad Γ (j + 52))]) (rest := []) (kX8_copyFrom l Γ hj μ5 (i + 52) (dw_r6_3 hk_i) (j + 52) (dw_r6_3 hk_j) hc6) (dw_gV tw_lX6_63 tw_vX8_copyFrom tw_eX8_copyFrom tw_iX8 tw_kX8_copyFrom) dw_hX8_copyFrom ⟨Nat.le_of_ble_eq_true rfl, Nat.le_of_ble_eq_true rfl⟩ ⟨Nat.zero_le _, Nat.zero_le _⟩ hl.1 (Nat.le_of_ble_eq_true rfl) rfl dX6_copyFrom_41 (fun H locs Z => ?_)
  refine lv_aload_n hx hb dX6_copyFrom_44 rfl (lv_at hl 1 rfl) ?_
  refine dw_g6_4 (t := (j + 60)) C0 Z hk_j tw_fX6_39 rfl dX6_copyFrom_45 ?_
  refine lv_aload_n hx hb dX6_copyFrom_48 rfl (lv_at hl 0 rfl) ?_
  refine dw_g6_4 (t := (i + 60)) C0 Z hk_i tw_fX6_39 rfl dX6_copyFrom_49 ?_
  obtain ⟨μ9, hc8, h⟩ := dw_bdS h
  refine dw_cNv (host := RX9) C0 Z dw_hA (As := [.ref (dw_ad Γ (j + 60)), .ref (dw_ad Γ (i + 60))]) (rest := []) (kX9_copy l Γ hj μ7 (j + 60) (dw_r6_4 hk_j) (i + 60) (dw_r6_4 hk_i) hc8) (by decide +kernel) tw_kX9_copy tw_iX9 tw_sX9_copy dw_hX9_copy ⟨Nat.le_of_ble_eq_true rfl, Nat.le_of_ble_eq_true rfl⟩ ⟨Nat.zero_le _, Nat.zero_le _⟩ hl.1 (Nat.le_of_ble_eq_true rfl) rfl dX6_copyFrom_52 (fun H locs Z => ?_)
  refine lv_aload_n hx hb dX6_copyFrom_55 rfl (lv_at hl 0 rfl) ?_
  refine dw_g6_5 (t := (i + 61)) C0 Z hk_i tw_fX6_46 rfl dX6_copyFrom_56 ?_
  refine lv_aload_n hx hb dX6_copyFrom_59 rfl (lv_at hl 1 rfl) ?_
  refine dw_g6_5 (t := (j + 61)) C0 Z hk_j tw_fX6_46 rfl dX6_copyFrom_60 ?_
  obtain ⟨μ10, eμ10⟩ := dw_eg (fX2_copyFrom μ9 (i + 61) (j + 61))
  have h := dw_nmS eμ10 h
  refine dw_cVv C0 Z dw_hA (dw_lt (dw_r6_5 hk_i) (by decide)) (dw_cz2 (dw_r6_5 hk_i)) rfl (As := [.ref (dw_ad Γ (j + 61))]) (rest := []) (kX2_copyFrom l Γ hj μ9 (i + 61) (dw_r6_5 hk_i) (j + 61) (dw_r6_5 hk_j) eμ10.symm) (dw_gV tw_lX6_70 tw_vX2_copyFrom tw_eX2_copyFrom tw_iX2 tw_kX2_copyFrom) dw_hX2_copyFrom ⟨Nat.le_of_ble_eq_true rfl, Nat.le_of_ble_eq_true rfl⟩ ⟨Nat.zero_le _, Nat.zero_le _⟩ hl.1 (Nat.le_of_ble_eq_true rfl) rfl dX6_copyFrom_63 (fun H locs Z => ?_)
  refine lv_aload_n hx hb dX6_copyFrom_66 rfl (lv_at hl 0 rfl) ?_
  refine dw_g6_6 (t := (i + 62)) C0 Z hk_i tw_fX6_50 rfl dX6_copyFrom_67 ?_
  refine lv_aload_n hx hb dX6_copyFrom_70 rfl (lv_at hl 1 rfl) ?_
  refine dw_g6_6 (t := (j + 62)) C0 Z hk_j tw_fX6_50 rfl dX6_copyFrom_71 ?_
  obtain ⟨μ11, eμ11⟩ := dw_eg (fX2_copyFrom μ10 (i + 62) (j + 62))
  have h := dw_nmS eμ11 h
  refine dw_cVv C0 Z dw_hA (dw_lt (dw_r6_6 hk_i) (by decide)) (dw_cz2 (dw_r6_6 hk_i)) rfl (As := [.ref (dw_ad Γ (j + 62))]) (rest := []) (kX2_copyFrom l Γ hj μ10 (i + 62) (dw_r6_6 hk_i) (j + 62) (dw_r6_6 hk_j) eμ11.symm) (dw_gV tw_lX6_70 tw_vX2_copyFrom tw_eX2_copyFrom tw_iX2 tw_kX2_copyFrom) dw_hX2_copyFrom ⟨Nat.le_of_ble_eq_true rfl, Nat.le_of_ble_eq_true rfl⟩ ⟨Nat.zero_le _, Nat.zero_le _⟩ hl.1 (Nat.le_of_ble_eq_true rfl) rfl dX6_copyFrom_74 (fun H locs Z => ?_)
  obtain rfl := dw_s1 h
  exact dw_vret C0 Z hr hlk dX6_copyFrom_77

def sX6_isReached_2 (μ : dw_M) (a1 : Int32) (x1 : Int32) : Option ((Int32) ⊕ ((Unit) ⊕ (Int32))) :=
  if (μ.1 11 1) ≤ x1 then (
  some (.inr (.inl ())))
  else (
  dw_gd (dw_ok x1 20) (
  if (fX5_isLateral μ (12 + 1 + 2 * x1.toNatClampNeg)) = 0 then (
  dw_nm (x1 + (1 : Int32)) (fun x5 =>
  some (.inl x5)))
  else (
  dw_bd (fX1_isReachedBy μ a1 ((12 + 1 + 2 * x1.toNatClampNeg) + 1)) (fun r7 =>
  if r7 = 0 then (
  dw_nm (x1 + (1 : Int32)) (fun x9 =>
  some (.inl x9)))
  else (
  some (.inr (.inr (1 : Int32))))))))
def fX6_isReached (μ : dw_M) (a1 : Int32) : Option (Int32) :=
  dw_bd (dw_wh (fun v => sX6_isReached_2 μ a1 v) 1000 (0 : Int32))
    (Sum.elim (fun _ => some (0 : Int32)) (fun r => some r))
set_option maxHeartbeats 4000000 in
set_option maxRecDepth 100000 in
theorem kX6_isReached (l : Launch) (Γ : dw_G) (hj : dw_inj Γ) (μ : dw_M) (a1 : Int32) {r : Int32} (h : fX6_isReached μ a1 = some r) : Met l yX6_isReached (dw_ws yX6_isReached cX6_isReached 3 (some .boolean)) (dw_rm 3 72) (dw_P Γ ([.ref (dw_ad Γ 1), .int a1] : List Value) μ) (dw_Qi Γ r μ) 0 0 (dw_A Γ) := by
  refine dw_met (own := RX6) rfl rfl (Nat.le_of_ble_eq_true rfl) hj ?_
  intro p e s m below meth c C0 hr hlk Z ls hl
  have hx := C0.1
  have hb := C0.2.1
  have hl : lv_has ls 3 [(0, .ref (dw_ad Γ 1)), (1, .int a1)] := hl
  suffices key : ∀ (H : Heap) (locs : List Loc), dw_Z Γ (dw_A Γ) s.heap μ H locs → W p l e (dw_rm 3 72) s m ([.ref (dw_ad Γ 1), .int a1] : List Value).toArray below meth c H locs 0 0 (MQ below (dw_Qi Γ r μ) ([.ref (dw_ad Γ 1), .int a1] : List Value).toArray s 0 0 (dw_A Γ)) (F0 m 0 ls []) from key _ _ Z
  clear Z
  intro H locs Z
  unfold fX6_isReached at h
  refine lv_iconst (v := (0 : Int32)) hx hb dX6_isReached_0 (by decide) ?_
  refine lv_istore_n (lv' := [(2, .int (0 : Int32)), (0, .ref (dw_ad Γ 1)), (1, .int a1)]) hx hb dX6_isReached_1 rfl hl (by decide) rfl (fun ls hl => ?_)
  obtain ⟨kc2, ekc2, h⟩ := dw_bdK h
  have E2 : ∀ (H : Heap) (locs : List Loc) (ls : Array Slot), dw_Z Γ (dw_A Γ) s.heap μ H locs → lv_has ls 3 [] → kc2 (.inl ()) = some r → W p l e (dw_rm 3 72) s m ([.ref (dw_ad Γ 1), .int a1] : List Value).toArray below meth c H locs 0 0 (MQ below (dw_Qi Γ r μ) ([.ref (dw_ad Γ 1), .int a1] : List Value).toArray s 0 0 (dw_A Γ)) (F0 m 59 ls []) := by
    intro  H locs ls Z hl h
    rw [ekc2] at h
    dsimp only [Sum.elim] at h
    refine lv_iconst (v := (0 : Int32)) hx hb dX6_isReached_59 (by decide) ?_
    obtain rfl := dw_s1 h
    exact dw_zret C0 Z hr hlk rfl dX6_isReached_60
  have L2 : ∀ (n2 : Nat) (x1 : Int32) (H : Heap) (locs : List Loc) (ls : Array Slot), dw_Z Γ (dw_A Γ) s.heap μ H locs → lv_has ls 3 [(0, .ref (dw_ad Γ 1)), (1, .int a1), (2, .int x1)] → dw_bd (dw_wh (fun v => sX6_isReached_2 μ a1 v) n2 x1) kc2 = some r → W p l e (dw_rm 3 72) s m ([.ref (dw_ad Γ 1), .int a1] : List Value).toArray below meth c H locs 0 0 (MQ below (dw_Qi Γ r μ) ([.ref (dw_ad Γ 1), .int a1] : List Value).toArray s 0 0 (dw_A Γ)) (F0 m 2 ls []) := by
    clear h
    intro n2
    induction n2 with
    | zero =>
      intro x1 H locs ls Z hl h
      exact (dw_wh0 h).elim
    | succ n2 ih2 =>
      intro x1 H locs ls Z hl h
      obtain ⟨q2, hs, hq2⟩ := dw_whB h
      have h : sX6_isReached_2 μ a1 x1 = some q2 := hs
      unfold sX6_isReached_2 at h
      refine lv_iload_n hx hb dX6_isReached_2 rfl (lv_at hl 2 rfl) ?_
      refine lv_aload_n hx hb dX6_isReached_3 rfl (lv_at hl 0 rfl) ?_
      refine dw_g6_2 (t := 11) C0 Z dw_kc1 tw_fX6_28 rfl dX6_isReached_4 ?_
      refine dw_g4_1 C0 Z dw_kc11 tw_fX6_73 dX6_isReached_7 ?_
      refine lv_icmp_ge (tgt := 59) hx hb dX6_isReached_10 (by decide) (fun c2 => ?_) (fun c2 => ?_)
      · have h := dw_ifT c2 h
        obtain rfl := dw_s1 h
        exact E2  H locs ls Z (lv_sub hl [] rfl) hq2
      · have h := dw_ifF c2 h
        refine lv_aload_n hx hb dX6_isReached_13 rfl (lv_at hl 0 rfl) ?_
        refine dw_g6_2 (t := 11) C0 Z dw_kc1 tw_fX6_28 rfl dX6_isReached_14 ?_
        refine dw_g4_0 (t := 12) C0 Z dw_kc11 tw_fX6_77 rfl dX6_isReached_17 ?_
        refine lv_iload_n hx hb dX6_isReached_20 rfl (lv_at hl 2 rfl) ?_
        obtain ⟨g3, h⟩ := dw_gdS h
        refine dw_aald C0 Z dw_kc12 g3 dX6_isReached_21 ?_
        refine dw_cVi C0 Z dw_hA (dw_lt (dw_pk dw_kc12 (dw_ok_lt g3)) (by decide)) (dw_cz5 (dw_pk dw_kc12 (dw_ok_lt g3))) rfl (As := []) (rest := []) (kX5_isLateral l Γ hj μ (12 + 1 + 2 * x1.toNatClampNeg) (dw_pk dw_kc12 (dw_ok_lt g3)) rfl) (dw_gV tw_lX6_81 tw_vX5_isLateral tw_eX5_isLateral tw_iX5 tw_kX5_isLateral) dw_hX5_isLateral ⟨Nat.le_of_ble_eq_true rfl, Nat.le_of_ble_eq_true rfl⟩ ⟨Nat.zero_le _, Nat.zero_le _⟩ hl.1 (Nat.le_of_ble_eq_true rfl) rfl dX6_isReached_22 (fun H locs Z => ?_)
        refine lv_if_eq (tgt := 53) hx hb dX6_isReached_25 (by decide) (fun c4 => ?_) (fun c4 => ?_)
        · have h := dw_ifT c4 h
          obtain ⟨x5, ex5⟩ := dw_eg (x1 + (1 : Int32))
          have h := dw_nmS ex5 h
          refine lv_iinc (v := x5) (lv' := [(2, .int x5), (0, .ref (dw_ad Γ 1)), (1, .int a1)]) hx hb dX6_isReached_53 hl (k := 2) rfl (by rw [ex5]; rfl) (by decide) rfl (fun ls hl => ?_)
          refine lv_goto (tgt := 2) hx hb dX6_isReached_56 (by decide) ?_
          obtain rfl := dw_s1 h
          exact ih2 x5 H locs ls Z (lv_sub hl [1, 2, 0] rfl) hq2
        · have h := dw_ifF c4 h
          refine lv_aload_n hx hb dX6_isReached_28 rfl (lv_at hl 0 rfl) ?_
          refine dw_g6_0 (t := 2) C0 Z dw_kc1 tw_fX6_12 rfl dX6_isReached_29 ?_
          refine lv_iload_n hx hb dX6_isReached_32 rfl (lv_at hl 1 rfl) ?_
          refine lv_aload_n hx hb dX6_isReached_33 rfl (lv_at hl 0 rfl) ?_
          refine dw_g6_2 (t := 11) C0 Z dw_kc1 tw_fX6_28 rfl dX6_isReached_34 ?_
          refine dw_g4_0 (t := 12) C0 Z dw_kc11 tw_fX6_77 rfl dX6_isReached_37 ?_
          refine lv_iload_n hx hb dX6_isReached_40 rfl (lv_at hl 2 rfl) ?_
          refine dw_aald C0 Z dw_kc12 g3 dX6_isReached_41 ?_
          refine dw_g5_0 (t := ((12 + 1 + 2 * x1.toNatClampNeg) + 1)) C0 Z (dw_pk dw_kc12 (dw_ok_lt g3)) tw_fX6_87 rfl dX6_isReached_42 ?_
          obtain ⟨r7, hc6, h⟩ := dw_bdS h
          refine dw_cVi C0 Z dw_hA (dw_lt dw_kc2 (by decide)) (dw_cz1 dw_kc2) rfl (As := [.int a1, .ref (dw_ad Γ ((12 + 1 + 2 * x1.toNatClampNeg) + 1))]) (rest := []) (kX1_isReachedBy l Γ hj μ a1 ((12 + 1 + 2 * x1.toNatClampNeg) + 1) (dw_r5_0 (dw_pk dw_kc12 (dw_ok_lt g3))) hc6) (dw_gV tw_lX6_90 tw_vX1_isReachedBy tw_eX1_isReachedBy tw_iX1 tw_kX1_isReachedBy) dw_hX1_isReachedBy ⟨Nat.le_of_ble_eq_true rfl, Nat.le_of_ble_eq_true rfl⟩ ⟨Nat.zero_le _, Nat.zero_le _⟩ hl.1 (Nat.le_of_ble_eq_true rfl) rfl dX6_isReached_45 (fun H locs Z => ?_)
          refine lv_if_eq (tgt := 53) hx hb dX6_isReached_48 (by decide) (fun c8 => ?_) (fun c8 => ?_)
          · have h := dw_ifT c8 h
            obtain ⟨x9, ex9⟩ := dw_eg (x1 + (1 : Int32))
            have h := dw_nmS ex9 h
            refine lv_iinc (v := x9) (lv' := [(2, .int x9), (0, .ref (dw_ad Γ 1)), (1, .int a1)]) hx hb dX6_isReached_53 hl (k := 2) rfl (by rw [ex9]; rfl) (by decide) rfl (fun ls hl => ?_)
            refine lv_goto (tgt := 2) hx hb dX6_isReached_56 (by decide) ?_
            obtain rfl := dw_s1 h
            exact ih2 x9 H locs ls Z (lv_sub hl [1, 2, 0] rfl) hq2
          · have h := dw_ifF c8 h
            refine lv_iconst (v := (1 : Int32)) hx hb dX6_isReached_51 (by decide) ?_
            obtain rfl := dw_s1 h
            have h := hq2
            dsimp only at h
            rw [ekc2] at h
            dsimp only [Sum.elim] at h
            obtain rfl := dw_s1 h
            exact dw_zret C0 Z hr hlk rfl dX6_isReached_52
  exact L2 1000 (0 : Int32) H locs ls Z (lv_sub hl [1, 2, 0] rfl) h

def sX6_countUnreached_4 (μ : dw_M) (x1 : Int32) (x2 : Int32) : Option ((Int32 × Int32) ⊕ ((Int32))) :=
  if (μ.1 2 1) ≤ x2 then (
  some (.inr x1))
  else (
  dw_bd (fX6_isReached μ x2) (fun r5 =>
  if r5 = 0 then (
  dw_nm (x1 + (1 : Int32)) (fun x8 =>
  dw_nm (x2 + (1 : Int32)) (fun x9 =>
  some (.inl (x8, x9)))))
  else (
  dw_nm (x2 + (1 : Int32)) (fun x7 =>
  some (.inl (x1, x7))))))
def fX6_countUnreached (μ : dw_M) : Option (Int32) :=
  dw_bd (dw_wh (fun v => sX6_countUnreached_4 μ v.1 v.2) 1000 ((0 : Int32), (0 : Int32)))
    (fun x10 => some x10)
set_option maxHeartbeats 4000000 in
set_option maxRecDepth 100000 in
theorem kX6_countUnreached (l : Launch) (Γ : dw_G) (hj : dw_inj Γ) (μ : dw_M)  {r : Int32} (h : fX6_countUnreached μ = some r) : Met l yX6_countUnreached (dw_ws yX6_countUnreached cX6_countUnreached 3 (some .int)) (dw_rm 4 94) (dw_P Γ ([.ref (dw_ad Γ 1)] : List Value) μ) (dw_Qi Γ r μ) 0 0 (dw_A Γ) := by
  refine dw_met (own := RX6) rfl rfl (Nat.le_of_ble_eq_true rfl) hj ?_
  intro p e s m below meth c C0 hr hlk Z ls hl
  have hx := C0.1
  have hb := C0.2.1
  have hl : lv_has ls 3 [(0, .ref (dw_ad Γ 1))] := hl
  suffices key : ∀ (H : Heap) (locs : List Loc), dw_Z Γ (dw_A Γ) s.heap μ H locs → W p l e (dw_rm 4 94) s m ([.ref (dw_ad Γ 1)] : List Value).toArray below meth c H locs 0 0 (MQ below (dw_Qi Γ r μ) ([.ref (dw_ad Γ 1)] : List Value).toArray s 0 0 (dw_A Γ)) (F0 m 0 ls []) from key _ _ Z
  clear Z
  intro H locs Z
  unfold fX6_countUnreached at h
  refine lv_iconst (v := (0 : Int32)) hx hb dX6_countUnreached_0 (by decide) ?_
  refine lv_istore_n (lv' := [(1, .int (0 : Int32)), (0, .ref (dw_ad Γ 1))]) hx hb dX6_countUnreached_1 rfl hl (by decide) rfl (fun ls hl => ?_)
  refine lv_iconst (v := (0 : Int32)) hx hb dX6_countUnreached_2 (by decide) ?_
  refine lv_istore_n (lv' := [(2, .int (0 : Int32)), (1, .int (0 : Int32)), (0, .ref (dw_ad Γ 1))]) hx hb dX6_countUnreached_3 rfl hl (by decide) rfl (fun ls hl => ?_)
  obtain ⟨kc4, ekc4, h⟩ := dw_bdK h
  have E4 : ∀ (x10 : Int32) (H : Heap) (locs : List Loc) (ls : Array Slot), dw_Z Γ (dw_A Γ) s.heap μ H locs → lv_has ls 3 [(1, .int x10)] → kc4 x10 = some r → W p l e (dw_rm 4 94) s m ([.ref (dw_ad Γ 1)] : List Value).toArray below meth c H locs 0 0 (MQ below (dw_Qi Γ r μ) ([.ref (dw_ad Γ 1)] : List Value).toArray s 0 0 (dw_A Γ)) (F0 m 32 ls []) := by
    intro x10 H locs ls Z hl h
    rw [ekc4] at h
    dsimp only at h
    refine lv_iload_n hx hb dX6_countUnreached_32 rfl (lv_at hl 0 rfl) ?_
    obtain rfl := dw_s1 h
    exact dw_iret C0 Z hr hlk dX6_countUnreached_33
  have L4 : ∀ (n4 : Nat) (x1 : Int32) (x2 : Int32) (H : Heap) (locs : List Loc) (ls : Array Slot), dw_Z Γ (dw_A Γ) s.heap μ H locs → lv_has ls 3 [(0, .ref (dw_ad Γ 1)), (1, .int x1), (2, .int x2)] → dw_bd (dw_wh (fun v => sX6_countUnreached_4 μ v.1 v.2) n4 (x1, x2)) kc4 = some r → W p l e (dw_rm 4 94) s m ([.ref (dw_ad Γ 1)] : List Value).toArray below meth c H locs 0 0 (MQ below (dw_Qi Γ r μ) ([.ref (dw_ad Γ 1)] : List Value).toArray s 0 0 (dw_A Γ)) (F0 m 4 ls []) := by
    clear h
    intro n4
    induction n4 with
    | zero =>
      intro x1 x2 H locs ls Z hl h
      exact (dw_wh0 h).elim
    | succ n4 ih4 =>
      intro x1 x2 H locs ls Z hl h
      obtain ⟨q4, hs, hq4⟩ := dw_whB h
      have h : sX6_countUnreached_4 μ x1 x2 = some q4 := hs
      unfold sX6_countUnreached_4 at h
      refine lv_iload_n hx hb dX6_countUnreached_4 rfl (lv_at hl 2 rfl) ?_
      refine lv_aload_n hx hb dX6_countUnreached_5 rfl (lv_at hl 0 rfl) ?_
      refine dw_g6_0 (t := 2) C0 Z dw_kc1 tw_fX6_12 rfl dX6_countUnreached_6 ?_
      refine dw_g1_1 C0 Z dw_kc2 tw_fX6_94 dX6_countUnreached_9 ?_
      refine lv_icmp_ge (tgt := 32) hx hb dX6_countUnreached_12 (by decide) (fun c3 => ?_) (fun c3 => ?_)
      · have h := dw_ifT c3 h
        obtain rfl := dw_s1 h
        exact E4 x1 H locs ls Z (lv_sub hl [1] rfl) hq4
      · have h := dw_ifF c3 h
        refine lv_aload_n hx hb dX6_countUnreached_15 rfl (lv_at hl 0 rfl) ?_
        refine lv_iload_n hx hb dX6_countUnreached_16 rfl (lv_at hl 2 rfl) ?_
        obtain ⟨r5, hc4, h⟩ := dw_bdS h
        refine dw_cVi C0 Z dw_hA (dw_lt dw_kc1 (by decide)) (dw_cz6 dw_kc1) rfl (As := [.int x2]) (rest := []) (kX6_isReached l Γ hj μ x2 hc4) (dw_gV tw_lX6_97 tw_vX6_isReached tw_eX6_isReached tw_iX6 tw_kX6_isReached) dw_hX6_isReached ⟨Nat.le_of_ble_eq_true rfl, Nat.le_of_ble_eq_true rfl⟩ ⟨Nat.zero_le _, Nat.zero_le _⟩ hl.1 (Nat.le_of_ble_eq_true rfl) rfl dX6_countUnreached_17 (fun H locs Z => ?_)
        refine lv_if_ne (tgt := 26) hx hb dX6_countUnreached_20 (by decide) (fun c6 => ?_) (fun c6 => ?_)
        · have h := dw_ifF c6 h
          obtain ⟨x7, ex7⟩ := dw_eg (x2 + (1 : Int32))
          have h := dw_nmS ex7 h
          refine lv_iinc (v := x7) (lv' := [(2, .int x7), (0, .ref (dw_ad Γ 1)), (1, .int x1)]) hx hb dX6_countUnreached_26 hl (k := 2) rfl (by rw [ex7]; rfl) (by decide) rfl (fun ls hl => ?_)
          refine lv_goto (tgt := 4) hx hb dX6_countUnreached_29 (by decide) ?_
          obtain rfl := dw_s1 h
          exact ih4 x1 x7 H locs ls Z (lv_sub hl [1, 2, 0] rfl) hq4
        · have h := dw_ifT c6 h
          obtain ⟨x8, ex8⟩ := dw_eg (x1 + (1 : Int32))
          have h := dw_nmS ex8 h
          refine lv_iinc (v := x8) (lv' := [(1, .int x8), (0, .ref (dw_ad Γ 1)), (2, .int x2)]) hx hb dX6_countUnreached_23 hl (k := 1) rfl (by rw [ex8]; rfl) (by decide) rfl (fun ls hl => ?_)
          obtain ⟨x9, ex9⟩ := dw_eg (x2 + (1 : Int32))
          have h := dw_nmS ex9 h
          refine lv_iinc (v := x9) (lv' := [(2, .int x9), (1, .int x8), (0, .ref (dw_ad Γ 1))]) hx hb dX6_countUnreached_26 hl (k := 2) rfl (by rw [ex9]; rfl) (by decide) rfl (fun ls hl => ?_)
          refine lv_goto (tgt := 4) hx hb dX6_countUnreached_29 (by decide) ?_
          obtain rfl := dw_s1 h
          exact ih4 x8 x9 H locs ls Z (lv_sub hl [2, 1, 0] rfl) hq4
  exact L4 1000 (0 : Int32) (0 : Int32) H locs ls Z (lv_sub hl [2, 1, 0] rfl) h

def fX7_offer (μ : dw_M) (a1 : Int32) (a2 : Int32) (a3 : Int32) : Option (dw_M) :=
  if (μ.1 139 4) ≤ a3 then (
  some μ)
  else (
  dw_nm (dw_st μ 139 4 a3) (fun μ2 =>
  dw_nm (dw_st μ2 139 5 (((100 : Int32) * a1) + a2)) (fun μ3 =>
  dw_gd (dw_ok a1 36) (
  dw_nm (dw_st μ3 139 6 (μ3.1 140 a1.toNatClampNeg)) (fun μ5 =>
  dw_gd (dw_ok a2 36) (
  dw_nm (dw_st μ5 139 7 (μ5.1 140 a2.toNatClampNeg)) (fun μ7 =>
  some μ7)))))))
set_option maxHeartbeats 4000000 in
set_option maxRecDepth 100000 in
theorem kX7_offer (l : Launch) (Γ : dw_G) (hj : dw_inj Γ) (μ : dw_M) (a1 : Int32) (a2 : Int32) (a3 : Int32) {ν : dw_M} (h : fX7_offer μ a1 a2 a3 = some ν) : Met l yX7_offer (dw_ws yX7_offer cX7_offer 4 none) (dw_rm 0 0) (dw_P Γ ([.ref (dw_ad Γ 139), .int a1, .int a2, .int a3] : List Value) μ) (dw_Qv Γ ν) 0 0 (dw_A Γ) := by
  refine dw_met (own := RX7) rfl rfl (Nat.le_of_ble_eq_true rfl) hj ?_
  intro p e s m below meth c C0 hr hlk Z ls hl
  have hx := C0.1
  have hb := C0.2.1
  have hl : lv_has ls 4 [(0, .ref (dw_ad Γ 139)), (1, .int a1), (2, .int a2), (3, .int a3)] := hl
  suffices key : ∀ (H : Heap) (locs : List Loc), dw_Z Γ (dw_A Γ) s.heap μ H locs → W p l e (dw_rm 0 0) s m ([.ref (dw_ad Γ 139), .int a1, .int a2, .int a3] : List Value).toArray below meth c H locs 0 0 (MQ below (dw_Qv Γ ν) ([.ref (dw_ad Γ 139), .int a1, .int a2, .int a3] : List Value).toArray s 0 0 (dw_A Γ)) (F0 m 0 ls []) from key _ _ Z
  clear Z
  intro H locs Z
  unfold fX7_offer at h
  refine lv_iload_n hx hb dX7_offer_0 rfl (lv_at hl 3 rfl) ?_
  refine lv_aload_n hx hb dX7_offer_1 rfl (lv_at hl 0 rfl) ?_
  refine dw_g7_4 C0 Z dw_kc139 tw_fX7_32 dX7_offer_2 ?_
  refine lv_icmp_ge (tgt := 43) hx hb dX7_offer_5 (by decide) (fun c1 => ?_) (fun c1 => ?_)
  · have h := dw_ifT c1 h
    obtain rfl := dw_s1 h
    exact dw_vret C0 Z hr hlk dX7_offer_43
  · have h := dw_ifF c1 h
    refine lv_aload_n hx hb dX7_offer_8 rfl (lv_at hl 0 rfl) ?_
    refine lv_iload_n hx hb dX7_offer_9 rfl (lv_at hl 3 rfl) ?_
    refine dw_p7_4 C0 Z dw_hA dw_kc139 tw_fX7_32 dX7_offer_10 (fun μ2 eμ2 H locs Z => ?_)
    have h := dw_nmS eμ2 h
    refine lv_aload_n hx hb dX7_offer_13 rfl (lv_at hl 0 rfl) ?_
    refine lv_bipush (v := (100 : Int32)) hx hb dX7_offer_14 (by decide) ?_
    refine lv_iload_n hx hb dX7_offer_16 rfl (lv_at hl 1 rfl) ?_
    refine lv_imul hx hb dX7_offer_17 ?_
    refine lv_iload_n hx hb dX7_offer_18 rfl (lv_at hl 2 rfl) ?_
    refine lv_iadd hx hb dX7_offer_19 ?_
    refine dw_p7_5 C0 Z dw_hA dw_kc139 tw_fX7_29 dX7_offer_20 (fun μ3 eμ3 H locs Z => ?_)
    have h := dw_nmS eμ3 h
    refine lv_aload_n hx hb dX7_offer_23 rfl (lv_at hl 0 rfl) ?_
    refine lv_aload_n hx hb dX7_offer_24 rfl (lv_at hl 0 rfl) ?_
    refine dw_g7_0 (t := 140) C0 Z dw_kc139 tw_fX7_9 rfl dX7_offer_25 ?_
    refine lv_iload_n hx hb dX7_offer_28 rfl (lv_at hl 1 rfl) ?_
    obtain ⟨g4, h⟩ := dw_gdS h
    refine dw_ald C0 Z dw_kc140 dw_lc140 g4 dX7_offer_29 ?_
    refine dw_p7_6 C0 Z dw_hA dw_kc139 tw_fX7_60 dX7_offer_30 (fun μ5 eμ5 H locs Z => ?_)
    have h := dw_nmS eμ5 h
    refine lv_aload_n hx hb dX7_offer_33 rfl (lv_at hl 0 rfl) ?_
    refine lv_aload_n hx hb dX7_offer_34 rfl (lv_at hl 0 rfl) ?_
    refine dw_g7_0 (t := 140) C0 Z dw_kc139 tw_fX7_9 rfl dX7_offer_35 ?_
    refine lv_iload_n hx hb dX7_offer_38 rfl (lv_at hl 2 rfl) ?_
    obtain ⟨g6, h⟩ := dw_gdS h
    refine dw_ald C0 Z dw_kc140 dw_lc140 g6 dX7_offer_39 ?_
    refine dw_p7_7 C0 Z dw_hA dw_kc139 tw_fX7_63 dX7_offer_40 (fun μ7 eμ7 H locs Z => ?_)
    have h := dw_nmS eμ7 h
    obtain rfl := dw_s1 h
    exact dw_vret C0 Z hr hlk dX7_offer_43

def sX7_findLeast_21 (x2 : Int32) (x6 : Int32) (μ7 : dw_M) : Option ((Int32 × dw_M) ⊕ ((dw_M))) :=
  if (μ7.1 2 1) ≤ x6 then (
  some (.inr μ7))
  else (
  if (fX2_has μ7 62 x2) = 0 then (
  dw_nm (x6 + (1 : Int32)) (fun x10 =>
  some (.inl (x10, μ7))))
  else (
  if (fX2_has μ7 62 x6) = 0 then (
  dw_nm (x6 + (1 : Int32)) (fun x12 =>
  some (.inl (x12, μ7))))
  else (
  dw_gd (dw_ok x2 36) (
  dw_gd (dw_ok x6 36) (
  if (μ7.1 140 x2.toNatClampNeg) = (μ7.1 140 x6.toNatClampNeg) then (
  dw_nm (x6 + (1 : Int32)) (fun x16 =>
  some (.inl (x16, μ7))))
  else (
  dw_bd (fX1_costBetween μ7 x2 x6) (fun r18 =>
  dw_bd (fX7_offer μ7 x2 x6 r18) (fun μ20 =>
  dw_nm (x6 + (1 : Int32)) (fun x21 =>
  some (.inl (x21, μ20)))))))))))
def sX7_findLeast_8  (x2 : Int32) (μ3 : dw_M) : Option ((Int32 × dw_M) ⊕ ((dw_M))) :=
  if (μ3.1 2 1) ≤ x2 then (
  some (.inr μ3))
  else (
  dw_nm (x2 + (1 : Int32)) (fun x5 =>
  dw_bd (dw_wh (fun v => sX7_findLeast_21 x2 v.1 v.2) 1000 (x5, μ3))
    (fun μ22 => dw_nm (x2 + (1 : Int32)) (fun x23 =>
  some (.inl (x23, μ22))))))
def fX7_findLeast (μ : dw_M) : Option (Int32 × dw_M) :=
  dw_nm (dw_st μ 139 4 (2147483647 : Int32)) (fun μ1 =>
  dw_bd (dw_wh (fun v => sX7_findLeast_8 v.1 v.2) 1000 ((0 : Int32), μ1))
    (fun μ24 => if (2147483647 : Int32) ≤ (μ24.1 139 4) then (
  some ((0 : Int32), μ24))
  else (
  some ((1 : Int32), μ24))))
set_option maxHeartbeats 4000000 in
set_option maxRecDepth 100000 in
theorem kX7_findLeast (l : Launch) (Γ : dw_G) (hj : dw_inj Γ) (μ : dw_M)  {r : Int32} {ν : dw_M} (h : fX7_findLeast μ = some (r, ν)) : Met l yX7_findLeast (dw_ws yX7_findLeast cX7_findLeast 5 (some .boolean)) (dw_rm 3 68) (dw_P Γ ([.ref (dw_ad Γ 139), .ref (dw_ad Γ 2), .ref (dw_ad Γ 62)] : List Value) μ) (dw_Qi Γ r ν) 0 0 (dw_A Γ) := by
  refine dw_met (own := RX7) rfl rfl (Nat.le_of_ble_eq_true rfl) hj ?_
  intro p e s m below meth c C0 hr hlk Z ls hl
  have hx := C0.1
  have hb := C0.2.1
  have hl : lv_has ls 5 [(0, .ref (dw_ad Γ 139)), (1, .ref (dw_ad Γ 2)), (2, .ref (dw_ad Γ 62))] := hl
  suffices key : ∀ (H : Heap) (locs : List Loc), dw_Z Γ (dw_A Γ) s.heap μ H locs → W p l e (dw_rm 3 68) s m ([.ref (dw_ad Γ 139), .ref (dw_ad Γ 2), .ref (dw_ad Γ 62)] : List Value).toArray below meth c H locs 0 0 (MQ below (dw_Qi Γ r ν) ([.ref (dw_ad Γ 139), .ref (dw_ad Γ 2), .ref (dw_ad Γ 62)] : List Value).toArray s 0 0 (dw_A Γ)) (F0 m 0 ls []) from key _ _ Z
  clear Z
  intro H locs Z
  unfold fX7_findLeast at h
  refine lv_aload_n hx hb dX7_findLeast_0 rfl (lv_at hl 0 rfl) ?_
  refine lv_ldc hx hb C0.2.2.2.1 (C0.2.2.2.2.1 _ tw_dX7_40) dX7_findLeast_1 ?_
  refine dw_p7_4 C0 Z dw_hA dw_kc139 tw_fX7_32 dX7_findLeast_3 (fun μ1 eμ1 H locs Z => ?_)
  have h := dw_nmS eμ1 h
  refine lv_iconst (v := (0 : Int32)) hx hb dX7_findLeast_6 (by decide) ?_
  refine lv_istore_n (lv' := [(3, .int (0 : Int32)), (0, .ref (dw_ad Γ 139)), (1, .ref (dw_ad Γ 2)), (2, .ref (dw_ad Γ 62))]) hx hb dX7_findLeast_7 rfl hl (by decide) rfl (fun ls hl => ?_)
  obtain ⟨kc8, ekc8, h⟩ := dw_bdK h
  have E8 : ∀ (μ24 : dw_M) (H : Heap) (locs : List Loc) (ls : Array Slot), dw_Z Γ (dw_A Γ) s.heap μ24 H locs → lv_has ls 5 [(0, .ref (dw_ad Γ 139))] → kc8 μ24 = some (r, ν) → W p l e (dw_rm 3 68) s m ([.ref (dw_ad Γ 139), .ref (dw_ad Γ 2), .ref (dw_ad Γ 62)] : List Value).toArray below meth c H locs 0 0 (MQ below (dw_Qi Γ r ν) ([.ref (dw_ad Γ 139), .ref (dw_ad Γ 2), .ref (dw_ad Γ 62)] : List Value).toArray s 0 0 (dw_A Γ)) (F0 m 89 ls []) := by
    intro μ24 H locs ls Z hl h
    rw [ekc8] at h
    dsimp only at h
    refine lv_aload_n hx hb dX7_findLeast_89 rfl (lv_at hl 0 rfl) ?_
    refine dw_g7_4 C0 Z dw_kc139 tw_fX7_32 dX7_findLeast_90 ?_
    refine lv_ldc hx hb C0.2.2.2.1 (C0.2.2.2.2.1 _ tw_dX7_40) dX7_findLeast_93 ?_
    refine lv_icmp_ge (tgt := 102) hx hb dX7_findLeast_95 (by decide) (fun c25 => ?_) (fun c25 => ?_)
    · have h := dw_ifT c25 h
      refine lv_iconst (v := (0 : Int32)) hx hb dX7_findLeast_102 (by decide) ?_
      obtain ⟨rfl, rfl⟩ := dw_s2 h
      exact dw_zret C0 Z hr hlk rfl dX7_findLeast_103
    · have h := dw_ifF c25 h
      refine lv_iconst (v := (1 : Int32)) hx hb dX7_findLeast_98 (by decide) ?_
      refine lv_goto (tgt := 103) hx hb dX7_findLeast_99 (by decide) ?_
      obtain ⟨rfl, rfl⟩ := dw_s2 h
      exact dw_zret C0 Z hr hlk rfl dX7_findLeast_103
  have L8 : ∀ (n8 : Nat) (x2 : Int32) (μ3 : dw_M) (H : Heap) (locs : List Loc) (ls : Array Slot), dw_Z Γ (dw_A Γ) s.heap μ3 H locs → lv_has ls 5 [(0, .ref (dw_ad Γ 139)), (1, .ref (dw_ad Γ 2)), (2, .ref (dw_ad Γ 62)), (3, .int x2)] → dw_bd (dw_wh (fun v => sX7_findLeast_8 v.1 v.2) n8 (x2, μ3)) kc8 = some (r, ν) → W p l e (dw_rm 3 68) s m ([.ref (dw_ad Γ 139), .ref (dw_ad Γ 2), .ref (dw_ad Γ 62)] : List Value).toArray below meth c H locs 0 0 (MQ below (dw_Qi Γ r ν) ([.ref (dw_ad Γ 139), .ref (dw_ad Γ 2), .ref (dw_ad Γ 62)] : List Value).toArray s 0 0 (dw_A Γ)) (F0 m 8 ls []) := by
    clear h
    intro n8
    induction n8 with
    | zero =>
      intro x2 μ3 H locs ls Z hl h
      exact (dw_wh0 h).elim
    | succ n8 ih8 =>
      intro x2 μ3 H locs ls Z hl h
      obtain ⟨q8, hs, hq8⟩ := dw_whB h
      have h : sX7_findLeast_8 x2 μ3 = some q8 := hs
      unfold sX7_findLeast_8 at h
      refine lv_iload_n hx hb dX7_findLeast_8 rfl (lv_at hl 3 rfl) ?_
      refine lv_aload_n hx hb dX7_findLeast_9 rfl (lv_at hl 1 rfl) ?_
      refine dw_g1_1 C0 Z dw_kc2 tw_fX7_41 dX7_findLeast_10 ?_
      refine lv_icmp_ge (tgt := 89) hx hb dX7_findLeast_13 (by decide) (fun c4 => ?_) (fun c4 => ?_)
      · have h := dw_ifT c4 h
        obtain rfl := dw_s1 h
        exact E8  μ3 H locs ls Z (lv_sub hl [0] rfl) hq8
      · have h := dw_ifF c4 h
        refine lv_iload_n hx hb dX7_findLeast_16 rfl (lv_at hl 3 rfl) ?_
        refine lv_iconst (v := (1 : Int32)) hx hb dX7_findLeast_17 (by decide) ?_
        refine lv_iadd hx hb dX7_findLeast_18 ?_
        refine lv_topi (fun x5 ex5 => ?_)
        have h := dw_nmS ex5 h
        refine lv_istore (lv' := [(4, .int x5), (0, .ref (dw_ad Γ 139)), (1, .ref (dw_ad Γ 2)), (2, .ref (dw_ad Γ 62)), (3, .int x2)]) hx hb dX7_findLeast_19 hl (by decide) rfl (fun ls hl => ?_)
        obtain ⟨kc21, ekc21, h⟩ := dw_bdK h
        have E21 : ∀ (μ22 : dw_M) (H : Heap) (locs : List Loc) (ls : Array Slot), dw_Z Γ (dw_A Γ) s.heap μ22 H locs → lv_has ls 5 [(0, .ref (dw_ad Γ 139)), (1, .ref (dw_ad Γ 2)), (2, .ref (dw_ad Γ 62)), (3, .int x2)] → kc21 μ22 = some q8 → W p l e (dw_rm 3 68) s m ([.ref (dw_ad Γ 139), .ref (dw_ad Γ 2), .ref (dw_ad Γ 62)] : List Value).toArray below meth c H locs 0 0 (MQ below (dw_Qi Γ r ν) ([.ref (dw_ad Γ 139), .ref (dw_ad Γ 2), .ref (dw_ad Γ 62)] : List Value).toArray s 0 0 (dw_A Γ)) (F0 m 83 ls []) := by
          intro μ22 H locs ls Z hl h
          rw [ekc21] at h
          dsimp only at h
          obtain ⟨x23, ex23⟩ := dw_eg (x2 + (1 : Int32))
          have h := dw_nmS ex23 h
          refine lv_iinc (v := x23) (lv' := [(3, .int x23), (0, .ref (dw_ad Γ 139)), (1, .ref (dw_ad Γ 2)), (2, .ref (dw_ad Γ 62))]) hx hb dX7_findLeast_83 hl (k := 3) rfl (by rw [ex23]; rfl) (by decide) rfl (fun ls hl => ?_)
          refine lv_goto (tgt := 8) hx hb dX7_findLeast_86 (by decide) ?_
          obtain rfl := dw_s1 h
          exact ih8 x23 μ22 H locs ls Z (lv_sub hl [1, 2, 3, 0] rfl) hq8
        have L21 : ∀ (n21 : Nat) (x6 : Int32) (μ7 : dw_M) (H : Heap) (locs : List Loc) (ls : Array Slot), dw_Z Γ (dw_A Γ) s.heap μ7 H locs → lv_has ls 5 [(0, .ref (dw_ad Γ 139)), (1, .ref (dw_ad Γ 2)), (2, .ref (dw_ad Γ 62)), (3, .int x2), (4, .int x6)] → dw_bd (dw_wh (fun v => sX7_findLeast_21 x2 v.1 v.2) n21 (x6, μ7)) kc21 = some q8 → W p l e (dw_rm 3 68) s m ([.ref (dw_ad Γ 139), .ref (dw_ad Γ 2), .ref (dw_ad Γ 62)] : List Value).toArray below meth c H locs 0 0 (MQ below (dw_Qi Γ r ν) ([.ref (dw_ad Γ 139), .ref (dw_ad Γ 2), .ref (dw_ad Γ 62)] : List Value).toArray s 0 0 (dw_A Γ)) (F0 m 21 ls []) := by
          clear h
          intro n21
          induction n21 with
          | zero =>
            intro x6 μ7 H locs ls Z hl h
            exact (dw_wh0 h).elim
          | succ n21 ih21 =>
            intro x6 μ7 H locs ls Z hl h
            obtain ⟨q21, hs, hq21⟩ := dw_whB h
            have h : sX7_findLeast_21 x2 x6 μ7 = some q21 := hs
            unfold sX7_findLeast_21 at h
            refine lv_iload hx hb dX7_findLeast_21 (lv_at hl 4 rfl) ?_
            refine lv_aload_n hx hb dX7_findLeast_23 rfl (lv_at hl 1 rfl) ?_
            refine dw_g1_1 C0 Z dw_kc2 tw_fX7_41 dX7_findLeast_24 ?_
            refine lv_icmp_ge (tgt := 83) hx hb dX7_findLeast_27 (by decide) (fun c8 => ?_) (fun c8 => ?_)
            · have h := dw_ifT c8 h
              obtain rfl := dw_s1 h
              exact E21  μ7 H locs ls Z (lv_sub hl [0, 1, 2, 3] rfl) hq21
            · have h := dw_ifF c8 h
              refine lv_aload_n hx hb dX7_findLeast_30 rfl (lv_at hl 2 rfl) ?_
              refine lv_iload_n hx hb dX7_findLeast_31 rfl (lv_at hl 3 rfl) ?_
              refine dw_cVi C0 Z dw_hA (dw_lt dw_kc62 (by decide)) (dw_cz2 dw_kc62) rfl (As := [.int x2]) (rest := []) (kX2_has l Γ hj μ7 62 dw_kc62 x2 rfl) (dw_gV tw_lX7_46 tw_vX2_has tw_eX2_has tw_iX2 tw_kX2_has) dw_hX2_has ⟨Nat.le_of_ble_eq_true rfl, Nat.le_of_ble_eq_true rfl⟩ ⟨Nat.zero_le _, Nat.zero_le _⟩ hl.1 (Nat.le_of_ble_eq_true rfl) rfl dX7_findLeast_32 (fun H locs Z => ?_)
              refine lv_if_eq (tgt := 77) hx hb dX7_findLeast_35 (by decide) (fun c9 => ?_) (fun c9 => ?_)
              · have h := dw_ifT c9 h
                obtain ⟨x10, ex10⟩ := dw_eg (x6 + (1 : Int32))
                have h := dw_nmS ex10 h
                refine lv_iinc (v := x10) (lv' := [(4, .int x10), (0, .ref (dw_ad Γ 139)), (1, .ref (dw_ad Γ 2)), (2, .ref (dw_ad Γ 62)), (3, .int x2)]) hx hb dX7_findLeast_77 hl (k := 4) rfl (by rw [ex10]; rfl) (by decide) rfl (fun ls hl => ?_)
                refine lv_goto (tgt := 21) hx hb dX7_findLeast_80 (by decide) ?_
                obtain rfl := dw_s1 h
                exact ih21 x10 μ7 H locs ls Z (lv_sub hl [1, 2, 3, 4, 0] rfl) hq21
              · have h := dw_ifF c9 h
                refine lv_aload_n hx hb dX7_findLeast_38 rfl (lv_at hl 2 rfl) ?_
                refine lv_iload hx hb dX7_findLeast_39 (lv_at hl 4 rfl) ?_
                refine dw_cVi C0 Z dw_hA (dw_lt dw_kc62 (by decide)) (dw_cz2 dw_kc62) rfl (As := [.int x6]) (rest := []) (kX2_has l Γ hj μ7 62 dw_kc62 x6 rfl) (dw_gV tw_lX7_46 tw_vX2_has tw_eX2_has tw_iX2 tw_kX2_has) dw_hX2_has ⟨Nat.le_of_ble_eq_true rfl, Nat.le_of_ble_eq_true rfl⟩ ⟨Nat.zero_le _, Nat.zero_le _⟩ hl.1 (Nat.le_of_ble_eq_true rfl) rfl dX7_findLeast_41 (fun H locs Z => ?_)
                refine lv_if_eq (tgt := 77) hx hb dX7_findLeast_44 (by decide) (fun c11 => ?_) (fun c11 => ?_)
                · have h := dw_ifT c11 h
                  obtain ⟨x12, ex12⟩ := dw_eg (x6 + (1 : Int32))
                  have h := dw_nmS ex12 h
                  refine lv_iinc (v := x12) (lv' := [(4, .int x12), (0, .ref (dw_ad Γ 139)), (1, .ref (dw_ad Γ 2)), (2, .ref (dw_ad Γ 62)), (3, .int x2)]) hx hb dX7_findLeast_77 hl (k := 4) rfl (by rw [ex12]; rfl) (by decide) rfl (fun ls hl => ?_)
                  refine lv_goto (tgt := 21) hx hb dX7_findLeast_80 (by decide) ?_
                  obtain rfl := dw_s1 h
                  exact ih21 x12 μ7 H locs ls Z (lv_sub hl [1, 2, 3, 4, 0] rfl) hq21
                · have h := dw_ifF c11 h
                  refine lv_aload_n hx hb dX7_findLeast_47 rfl (lv_at hl 0 rfl) ?_
                  refine dw_g7_0 (t := 140) C0 Z dw_kc139 tw_fX7_9 rfl dX7_findLeast_48 ?_
                  refine lv_iload_n hx hb dX7_findLeast_51 rfl (lv_at hl 3 rfl) ?_
                  obtain ⟨g13, h⟩ := dw_gdS h
                  refine dw_ald C0 Z dw_kc140 dw_lc140 g13 dX7_findLeast_52 ?_
                  refine lv_aload_n hx hb dX7_findLeast_53 rfl (lv_at hl 0 rfl) ?_
                  refine dw_g7_0 (t := 140) C0 Z dw_kc139 tw_fX7_9 rfl dX7_findLeast_54 ?_
                  refine lv_iload hx hb dX7_findLeast_57 (lv_at hl 4 rfl) ?_
                  obtain ⟨g14, h⟩ := dw_gdS h
                  refine dw_ald C0 Z dw_kc140 dw_lc140 g14 dX7_findLeast_59 ?_
                  refine lv_icmp_eq (tgt := 77) hx hb dX7_findLeast_60 (by decide) (fun c15 => ?_) (fun c15 => ?_)
                  · have h := dw_ifT c15 h
                    obtain ⟨x16, ex16⟩ := dw_eg (x6 + (1 : Int32))
                    have h := dw_nmS ex16 h
                    refine lv_iinc (v := x16) (lv' := [(4, .int x16), (0, .ref (dw_ad Γ 139)), (1, .ref (dw_ad Γ 2)), (2, .ref (dw_ad Γ 62)), (3, .int x2)]) hx hb dX7_findLeast_77 hl (k := 4) rfl (by rw [ex16]; rfl) (by decide) rfl (fun ls hl => ?_)
                    refine lv_goto (tgt := 21) hx hb dX7_findLeast_80 (by decide) ?_
                    obtain rfl := dw_s1 h
                    exact ih21 x16 μ7 H locs ls Z (lv_sub hl [1, 2, 3, 4, 0] rfl) hq21
                  · have h := dw_ifF c15 h
                    refine lv_aload_n hx hb dX7_findLeast_63 rfl (lv_at hl 0 rfl) ?_
                    refine lv_iload_n hx hb dX7_findLeast_64 rfl (lv_at hl 3 rfl) ?_
                    refine lv_iload hx hb dX7_findLeast_65 (lv_at hl 4 rfl) ?_
                    refine lv_aload_n hx hb dX7_findLeast_67 rfl (lv_at hl 1 rfl) ?_
                    refine lv_iload_n hx hb dX7_findLeast_68 rfl (lv_at hl 3 rfl) ?_
                    refine lv_iload hx hb dX7_findLeast_69 (lv_at hl 4 rfl) ?_
                    obtain ⟨r18, hc17, h⟩ := dw_bdS h
                    refine dw_cVi C0 Z dw_hA (dw_lt dw_kc2 (by decide)) (dw_cz1 dw_kc2) rfl (As := [.int x2, .int x6]) (rest := [.int x6, .int x2, .ref (dw_ad Γ 139)]) (kX1_costBetween l Γ hj μ7 x2 x6 hc17) (dw_gV tw_lX7_52 tw_vX1_costBetween tw_eX1_costBetween tw_iX1 tw_kX1_costBetween) dw_hX1_costBetween ⟨Nat.le_of_ble_eq_true rfl, Nat.le_of_ble_eq_true rfl⟩ ⟨Nat.zero_le _, Nat.zero_le _⟩ hl.1 (Nat.le_of_ble_eq_true rfl) rfl dX7_findLeast_71 (fun H locs Z => ?_)
                    obtain ⟨μ20, hc19, h⟩ := dw_bdS h
                    refine dw_cVv C0 Z dw_hA (dw_lt dw_kc139 (by decide)) (dw_cz7 dw_kc139) rfl (As := [.int x2, .int x6, .int r18]) (rest := []) (kX7_offer l Γ hj μ7 x2 x6 r18 hc19) (dw_gV tw_lX7_56 tw_vX7_offer tw_eX7_offer tw_iX7 tw_kX7_offer) dw_hX7_offer ⟨Nat.le_of_ble_eq_true rfl, Nat.le_of_ble_eq_true rfl⟩ ⟨Nat.zero_le _, Nat.zero_le _⟩ hl.1 (Nat.le_of_ble_eq_true rfl) rfl dX7_findLeast_74 (fun H locs Z => ?_)
                    obtain ⟨x21, ex21⟩ := dw_eg (x6 + (1 : Int32))
                    have h := dw_nmS ex21 h
                    refine lv_iinc (v := x21) (lv' := [(4, .int x21), (0, .ref (dw_ad Γ 139)), (1, .ref (dw_ad Γ 2)), (2, .ref (dw_ad Γ 62)), (3, .int x2)]) hx hb dX7_findLeast_77 hl (k := 4) rfl (by rw [ex21]; rfl) (by decide) rfl (fun ls hl => ?_)
                    refine lv_goto (tgt := 21) hx hb dX7_findLeast_80 (by decide) ?_
                    obtain rfl := dw_s1 h
                    exact ih21 x21 μ20 H locs ls Z (lv_sub hl [1, 2, 3, 4, 0] rfl) hq21
        exact L21 1000 x5 μ3 H locs ls Z (lv_sub hl [1, 2, 3, 4, 0] rfl) h
  exact L8 1000 (0 : Int32) μ1 H locs ls Z (lv_sub hl [1, 2, 3, 0] rfl) h

def sX7_joinPieces_2  (x1 : Int32) (μ2 : dw_M) : Option ((Int32 × dw_M) ⊕ ((dw_M))) :=
  if (36 : Int32) ≤ x1 then (
  some (.inr μ2))
  else (
  dw_gd (dw_ok x1 36) (
  if (μ2.1 140 x1.toNatClampNeg) = (μ2.1 139 7) then (
  dw_nm (dw_st μ2 140 x1.toNatClampNeg (μ2.1 139 6)) (fun μ7 =>
  dw_nm (x1 + (1 : Int32)) (fun x8 =>
  some (.inl (x8, μ7)))))
  else (
  dw_nm (x1 + (1 : Int32)) (fun x6 =>
  some (.inl (x6, μ2))))))
def fX7_joinPieces (μ : dw_M) : Option (dw_M) :=
  dw_bd (dw_wh (fun v => sX7_joinPieces_2 v.1 v.2) 1000 ((0 : Int32), μ))
    (fun μ9 => some μ9)
set_option maxHeartbeats 4000000 in
set_option maxRecDepth 100000 in
theorem kX7_joinPieces (l : Launch) (Γ : dw_G) (hj : dw_inj Γ) (μ : dw_M)  {ν : dw_M} (h : fX7_joinPieces μ = some ν) : Met l yX7_joinPieces (dw_ws yX7_joinPieces cX7_joinPieces 2 none) (dw_rm 0 0) (dw_P Γ ([.ref (dw_ad Γ 139)] : List Value) μ) (dw_Qv Γ ν) 0 0 (dw_A Γ) := by
  refine dw_met (own := RX7) rfl rfl (Nat.le_of_ble_eq_true rfl) hj ?_
  intro p e s m below meth c C0 hr hlk Z ls hl
  have hx := C0.1
  have hb := C0.2.1
  have hl : lv_has ls 2 [(0, .ref (dw_ad Γ 139))] := hl
  suffices key : ∀ (H : Heap) (locs : List Loc), dw_Z Γ (dw_A Γ) s.heap μ H locs → W p l e (dw_rm 0 0) s m ([.ref (dw_ad Γ 139)] : List Value).toArray below meth c H locs 0 0 (MQ below (dw_Qv Γ ν) ([.ref (dw_ad Γ 139)] : List Value).toArray s 0 0 (dw_A Γ)) (F0 m 0 ls []) from key _ _ Z
  clear Z
  intro H locs Z
  unfold fX7_joinPieces at h
  refine lv_iconst (v := (0 : Int32)) hx hb dX7_joinPieces_0 (by decide) ?_
  refine lv_istore_n (lv' := [(1, .int (0 : Int32)), (0, .ref (dw_ad Γ 139))]) hx hb dX7_joinPieces_1 rfl hl (by decide) rfl (fun ls hl => ?_)
  obtain ⟨kc2, ekc2, h⟩ := dw_bdK h
  have E2 : ∀ (μ9 : dw_M) (H : Heap) (locs : List Loc) (ls : Array Slot), dw_Z Γ (dw_A Γ) s.heap μ9 H locs → lv_has ls 2 [] → kc2 μ9 = some ν → W p l e (dw_rm 0 0) s m ([.ref (dw_ad Γ 139)] : List Value).toArray below meth c H locs 0 0 (MQ below (dw_Qv Γ ν) ([.ref (dw_ad Γ 139)] : List Value).toArray s 0 0 (dw_A Γ)) (F0 m 37 ls []) := by
    intro μ9 H locs ls Z hl h
    rw [ekc2] at h
    dsimp only at h
    obtain rfl := dw_s1 h
    exact dw_vret C0 Z hr hlk dX7_joinPieces_37
  have L2 : ∀ (n2 : Nat) (x1 : Int32) (μ2 : dw_M) (H : Heap) (locs : List Loc) (ls : Array Slot), dw_Z Γ (dw_A Γ) s.heap μ2 H locs → lv_has ls 2 [(0, .ref (dw_ad Γ 139)), (1, .int x1)] → dw_bd (dw_wh (fun v => sX7_joinPieces_2 v.1 v.2) n2 (x1, μ2)) kc2 = some ν → W p l e (dw_rm 0 0) s m ([.ref (dw_ad Γ 139)] : List Value).toArray below meth c H locs 0 0 (MQ below (dw_Qv Γ ν) ([.ref (dw_ad Γ 139)] : List Value).toArray s 0 0 (dw_A Γ)) (F0 m 2 ls []) := by
    clear h
    intro n2
    induction n2 with
    | zero =>
      intro x1 μ2 H locs ls Z hl h
      exact (dw_wh0 h).elim
    | succ n2 ih2 =>
      intro x1 μ2 H locs ls Z hl h
      obtain ⟨q2, hs, hq2⟩ := dw_whB h
      have h : sX7_joinPieces_2 x1 μ2 = some q2 := hs
      unfold sX7_joinPieces_2 at h
      refine lv_iload_n hx hb dX7_joinPieces_2 rfl (lv_at hl 1 rfl) ?_
      refine lv_bipush (v := (36 : Int32)) hx hb dX7_joinPieces_3 (by decide) ?_
      refine lv_icmp_ge (tgt := 37) hx hb dX7_joinPieces_5 (by decide) (fun c3 => ?_) (fun c3 => ?_)
      · have h := dw_ifT c3 h
        obtain rfl := dw_s1 h
        exact E2  μ2 H locs ls Z (lv_sub hl [] rfl) hq2
      · have h := dw_ifF c3 h
        refine lv_aload_n hx hb dX7_joinPieces_8 rfl (lv_at hl 0 rfl) ?_
        refine dw_g7_0 (t := 140) C0 Z dw_kc139 tw_fX7_9 rfl dX7_joinPieces_9 ?_
        refine lv_iload_n hx hb dX7_joinPieces_12 rfl (lv_at hl 1 rfl) ?_
        obtain ⟨g4, h⟩ := dw_gdS h
        refine dw_ald C0 Z dw_kc140 dw_lc140 g4 dX7_joinPieces_13 ?_
        refine lv_aload_n hx hb dX7_joinPieces_14 rfl (lv_at hl 0 rfl) ?_
        refine dw_g7_7 C0 Z dw_kc139 tw_fX7_63 dX7_joinPieces_15 ?_
        refine lv_icmp_ne (tgt := 31) hx hb dX7_joinPieces_18 (by decide) (fun c5 => ?_) (fun c5 => ?_)
        · have h := dw_ifF c5 h
          obtain ⟨x6, ex6⟩ := dw_eg (x1 + (1 : Int32))
          have h := dw_nmS ex6 h
          refine lv_iinc (v := x6) (lv' := [(1, .int x6), (0, .ref (dw_ad Γ 139))]) hx hb dX7_joinPieces_31 hl (k := 1) rfl (by rw [ex6]; rfl) (by decide) rfl (fun ls hl => ?_)
          refine lv_goto (tgt := 2) hx hb dX7_joinPieces_34 (by decide) ?_
          obtain rfl := dw_s1 h
          exact ih2 x6 μ2 H locs ls Z (lv_sub hl [1, 0] rfl) hq2
        · have h := dw_ifT c5 h
          refine lv_aload_n hx hb dX7_joinPieces_21 rfl (lv_at hl 0 rfl) ?_
          refine dw_g7_0 (t := 140) C0 Z dw_kc139 tw_fX7_9 rfl dX7_joinPieces_22 ?_
          refine lv_iload_n hx hb dX7_joinPieces_25 rfl (lv_at hl 1 rfl) ?_
          refine lv_aload_n hx hb dX7_joinPieces_26 rfl (lv_at hl 0 rfl) ?_
          refine dw_g7_6 C0 Z dw_kc139 tw_fX7_60 dX7_joinPieces_27 ?_
          refine dw_ast C0 Z dw_hA dw_kc140 dw_lc140 g4 dX7_joinPieces_30 (fun μ7 eμ7 H locs Z => ?_)
          have h := dw_nmS eμ7 h
          obtain ⟨x8, ex8⟩ := dw_eg (x1 + (1 : Int32))
          have h := dw_nmS ex8 h
          refine lv_iinc (v := x8) (lv' := [(1, .int x8), (0, .ref (dw_ad Γ 139))]) hx hb dX7_joinPieces_31 hl (k := 1) rfl (by rw [ex8]; rfl) (by decide) rfl (fun ls hl => ?_)
          refine lv_goto (tgt := 2) hx hb dX7_joinPieces_34 (by decide) ?_
          obtain rfl := dw_s1 h
          exact ih2 x8 μ7 H locs ls Z (lv_sub hl [1, 0] rfl) hq2
  exact L2 1000 (0 : Int32) μ H locs ls Z (lv_sub hl [1, 0] rfl) h

def sX7_grow_2  (x1 : Int32) (μ2 : dw_M) : Option ((Int32 × dw_M) ⊕ ((dw_M))) :=
  if (36 : Int32) ≤ x1 then (
  some (.inr μ2))
  else (
  dw_gd (dw_ok x1 36) (
  dw_nm (dw_st μ2 140 x1.toNatClampNeg x1) (fun μ5 =>
  dw_nm (x1 + (1 : Int32)) (fun x6 =>
  some (.inl (x6, μ5))))))
def sX7_grow_31  (μ10 : dw_M) : Option ((dw_M) ⊕ ((dw_M))) :=
  if (36 : Int32) ≤ (μ10.1 139 2) then (
  some (.inr μ10))
  else (
  dw_b2 (fX7_findLeast μ10) (fun r13 μ14 =>
  if r13 = 0 then (
  some (.inr μ14))
  else (
  dw_gd (dw_ok (μ14.1 139 2) 36) (
  dw_nm (dw_st μ14 141 (μ14.1 139 2).toNatClampNeg (μ14.1 139 5)) (fun μ17 =>
  dw_nm (dw_st μ17 139 2 ((μ17.1 139 2) + (1 : Int32))) (fun μ18 =>
  dw_nm (dw_st μ18 139 3 ((μ18.1 139 3) + (μ18.1 139 4))) (fun μ19 =>
  dw_bd (fX7_joinPieces μ19) (fun μ21 =>
  some (.inl μ21)))))))))
def fX7_grow (μ : dw_M) : Option (dw_M) :=
  dw_bd (dw_wh (fun v => sX7_grow_2 v.1 v.2) 1000 ((0 : Int32), μ))
    (fun μ7 => dw_nm (dw_st μ7 139 2 (0 : Int32)) (fun μ8 =>
  dw_nm (dw_st μ8 139 3 (0 : Int32)) (fun μ9 =>
  dw_bd (dw_wh (fun v => sX7_grow_31 v) 1000 μ9)
    (fun μ22 => some μ22))))
set_option maxHeartbeats 4000000 in
set_option maxRecDepth 100000 in
theorem kX7_grow (l : Launch) (Γ : dw_G) (hj : dw_inj Γ) (μ : dw_M)  {ν : dw_M} (h : fX7_grow μ = some ν) : Met l yX7_grow (dw_ws yX7_grow cX7_grow 4 none) (dw_rm 4 92) (dw_P Γ ([.ref (dw_ad Γ 139), .ref (dw_ad Γ 2), .ref (dw_ad Γ 62)] : List Value) μ) (dw_Qv Γ ν) 0 0 (dw_A Γ) := by
  refine dw_met (own := RX7) rfl rfl (Nat.le_of_ble_eq_true rfl) hj ?_
  intro p e s m below meth c C0 hr hlk Z ls hl
  have hx := C0.1
  have hb := C0.2.1
  have hl : lv_has ls 4 [(0, .ref (dw_ad Γ 139)), (1, .ref (dw_ad Γ 2)), (2, .ref (dw_ad Γ 62))] := hl
  suffices key : ∀ (H : Heap) (locs : List Loc), dw_Z Γ (dw_A Γ) s.heap μ H locs → W p l e (dw_rm 4 92) s m ([.ref (dw_ad Γ 139), .ref (dw_ad Γ 2), .ref (dw_ad Γ 62)] : List Value).toArray below meth c H locs 0 0 (MQ below (dw_Qv Γ ν) ([.ref (dw_ad Γ 139), .ref (dw_ad Γ 2), .ref (dw_ad Γ 62)] : List Value).toArray s 0 0 (dw_A Γ)) (F0 m 0 ls []) from key _ _ Z
  clear Z
  intro H locs Z
  unfold fX7_grow at h
  refine lv_iconst (v := (0 : Int32)) hx hb dX7_grow_0 (by decide) ?_
  refine lv_istore_n (lv' := [(3, .int (0 : Int32)), (0, .ref (dw_ad Γ 139)), (1, .ref (dw_ad Γ 2)), (2, .ref (dw_ad Γ 62))]) hx hb dX7_grow_1 rfl hl (by decide) rfl (fun ls hl => ?_)
  obtain ⟨kc2, ekc2, h⟩ := dw_bdK h
  have E2 : ∀ (μ7 : dw_M) (H : Heap) (locs : List Loc) (ls : Array Slot), dw_Z Γ (dw_A Γ) s.heap μ7 H locs → lv_has ls 4 [(0, .ref (dw_ad Γ 139)), (1, .ref (dw_ad Γ 2)), (2, .ref (dw_ad Γ 62))] → kc2 μ7 = some ν → W p l e (dw_rm 4 92) s m ([.ref (dw_ad Γ 139), .ref (dw_ad Γ 2), .ref (dw_ad Γ 62)] : List Value).toArray below meth c H locs 0 0 (MQ below (dw_Qv Γ ν) ([.ref (dw_ad Γ 139), .ref (dw_ad Γ 2), .ref (dw_ad Γ 62)] : List Value).toArray s 0 0 (dw_A Γ)) (F0 m 21 ls []) := by
    intro μ7 H locs ls Z hl h
    rw [ekc2] at h
    dsimp only at h
    refine lv_aload_n hx hb dX7_grow_21 rfl (lv_at hl 0 rfl) ?_
    refine lv_iconst (v := (0 : Int32)) hx hb dX7_grow_22 (by decide) ?_
    refine dw_p7_2 C0 Z dw_hA dw_kc139 tw_fX7_18 dX7_grow_23 (fun μ8 eμ8 H locs Z => ?_)
    have h := dw_nmS eμ8 h
    refine lv_aload_n hx hb dX7_grow_26 rfl (lv_at hl 0 rfl) ?_
    refine lv_iconst (v := (0 : Int32)) hx hb dX7_grow_27 (by decide) ?_
    refine dw_p7_3 C0 Z dw_hA dw_kc139 tw_fX7_22 dX7_grow_28 (fun μ9 eμ9 H locs Z => ?_)
    have h := dw_nmS eμ9 h
    obtain ⟨kc31, ekc31, h⟩ := dw_bdK h
    have E31 : ∀ (μ22 : dw_M) (H : Heap) (locs : List Loc) (ls : Array Slot), dw_Z Γ (dw_A Γ) s.heap μ22 H locs → lv_has ls 4 [] → kc31 μ22 = some ν → W p l e (dw_rm 4 92) s m ([.ref (dw_ad Γ 139), .ref (dw_ad Γ 2), .ref (dw_ad Γ 62)] : List Value).toArray below meth c H locs 0 0 (MQ below (dw_Qv Γ ν) ([.ref (dw_ad Γ 139), .ref (dw_ad Γ 2), .ref (dw_ad Γ 62)] : List Value).toArray s 0 0 (dw_A Γ)) (F0 m 92 ls []) := by
      intro μ22 H locs ls Z hl h
      rw [ekc31] at h
      dsimp only at h
      obtain rfl := dw_s1 h
      exact dw_vret C0 Z hr hlk dX7_grow_92
    have L31 : ∀ (n31 : Nat) (μ10 : dw_M) (H : Heap) (locs : List Loc) (ls : Array Slot), dw_Z Γ (dw_A Γ) s.heap μ10 H locs → lv_has ls 4 [(0, .ref (dw_ad Γ 139)), (1, .ref (dw_ad Γ 2)), (2, .ref (dw_ad Γ 62))] → dw_bd (dw_wh (fun v => sX7_grow_31 v) n31 μ10) kc31 = some ν → W p l e (dw_rm 4 92) s m ([.ref (dw_ad Γ 139), .ref (dw_ad Γ 2), .ref (dw_ad Γ 62)] : List Value).toArray below meth c H locs 0 0 (MQ below (dw_Qv Γ ν) ([.ref (dw_ad Γ 139), .ref (dw_ad Γ 2), .ref (dw_ad Γ 62)] : List Value).toArray s 0 0 (dw_A Γ)) (F0 m 31 ls []) := by
      clear h
      intro n31
      induction n31 with
      | zero =>
        intro μ10 H locs ls Z hl h
        exact (dw_wh0 h).elim
      | succ n31 ih31 =>
        intro μ10 H locs ls Z hl h
        obtain ⟨q31, hs, hq31⟩ := dw_whB h
        have h : sX7_grow_31 μ10 = some q31 := hs
        unfold sX7_grow_31 at h
        refine lv_aload_n hx hb dX7_grow_31 rfl (lv_at hl 0 rfl) ?_
        refine dw_g7_2 C0 Z dw_kc139 tw_fX7_18 dX7_grow_32 ?_
        refine lv_bipush (v := (36 : Int32)) hx hb dX7_grow_35 (by decide) ?_
        refine lv_icmp_ge (tgt := 92) hx hb dX7_grow_37 (by decide) (fun c11 => ?_) (fun c11 => ?_)
        · have h := dw_ifT c11 h
          obtain rfl := dw_s1 h
          exact E31  μ10 H locs ls Z (lv_sub hl [] rfl) hq31
        · have h := dw_ifF c11 h
          refine lv_aload_n hx hb dX7_grow_40 rfl (lv_at hl 0 rfl) ?_
          refine lv_aload_n hx hb dX7_grow_41 rfl (lv_at hl 1 rfl) ?_
          refine lv_aload_n hx hb dX7_grow_42 rfl (lv_at hl 2 rfl) ?_
          obtain ⟨r13, μ14, hc12, h⟩ := dw_b2S h
          refine dw_cVi C0 Z dw_hA (dw_lt dw_kc139 (by decide)) (dw_cz7 dw_kc139) rfl (As := [.ref (dw_ad Γ 2), .ref (dw_ad Γ 62)]) (rest := []) (kX7_findLeast l Γ hj μ10 hc12) (dw_gV tw_lX7_25 tw_vX7_findLeast tw_eX7_findLeast tw_iX7 tw_kX7_findLeast) dw_hX7_findLeast ⟨Nat.le_of_ble_eq_true rfl, Nat.le_of_ble_eq_true rfl⟩ ⟨Nat.zero_le _, Nat.zero_le _⟩ hl.1 (Nat.le_of_ble_eq_true rfl) rfl dX7_grow_43 (fun H locs Z => ?_)
          refine lv_if_eq (tgt := 92) hx hb dX7_grow_46 (by decide) (fun c15 => ?_) (fun c15 => ?_)
          · have h := dw_ifT c15 h
            obtain rfl := dw_s1 h
            exact E31  μ14 H locs ls Z (lv_sub hl [] rfl) hq31
          · have h := dw_ifF c15 h
            refine lv_aload_n hx hb dX7_grow_49 rfl (lv_at hl 0 rfl) ?_
            refine dw_g7_1 (t := 141) C0 Z dw_kc139 tw_fX7_15 rfl dX7_grow_50 ?_
            refine lv_aload_n hx hb dX7_grow_53 rfl (lv_at hl 0 rfl) ?_
            refine dw_g7_2 C0 Z dw_kc139 tw_fX7_18 dX7_grow_54 ?_
            refine lv_aload_n hx hb dX7_grow_57 rfl (lv_at hl 0 rfl) ?_
            refine dw_g7_5 C0 Z dw_kc139 tw_fX7_29 dX7_grow_58 ?_
            obtain ⟨g16, h⟩ := dw_gdS h
            refine dw_ast C0 Z dw_hA dw_kc141 dw_lc141 g16 dX7_grow_61 (fun μ17 eμ17 H locs Z => ?_)
            have h := dw_nmS eμ17 h
            refine lv_aload_n hx hb dX7_grow_62 rfl (lv_at hl 0 rfl) ?_
            refine lv_dup hx hb dX7_grow_63 rfl ?_
            refine dw_g7_2 C0 Z dw_kc139 tw_fX7_18 dX7_grow_64 ?_
            refine lv_iconst (v := (1 : Int32)) hx hb dX7_grow_67 (by decide) ?_
            refine lv_iadd hx hb dX7_grow_68 ?_
            refine dw_p7_2 C0 Z dw_hA dw_kc139 tw_fX7_18 dX7_grow_69 (fun μ18 eμ18 H locs Z => ?_)
            have h := dw_nmS eμ18 h
            refine lv_aload_n hx hb dX7_grow_72 rfl (lv_at hl 0 rfl) ?_
            refine lv_dup hx hb dX7_grow_73 rfl ?_
            refine dw_g7_3 C0 Z dw_kc139 tw_fX7_22 dX7_grow_74 ?_
            refine lv_aload_n hx hb dX7_grow_77 rfl (lv_at hl 0 rfl) ?_
            refine dw_g7_4 C0 Z dw_kc139 tw_fX7_32 dX7_grow_78 ?_
            refine lv_iadd hx hb dX7_grow_81 ?_
            refine dw_p7_3 C0 Z dw_hA dw_kc139 tw_fX7_22 dX7_grow_82 (fun μ19 eμ19 H locs Z => ?_)
            have h := dw_nmS eμ19 h
            refine lv_aload_n hx hb dX7_grow_85 rfl (lv_at hl 0 rfl) ?_
            obtain ⟨μ21, hc20, h⟩ := dw_bdS h
            refine dw_cVv C0 Z dw_hA (dw_lt dw_kc139 (by decide)) (dw_cz7 dw_kc139) rfl (As := []) (rest := []) (kX7_joinPieces l Γ hj μ19 hc20) (dw_gV tw_lX7_35 tw_vX7_joinPieces tw_eX7_joinPieces tw_iX7 tw_kX7_joinPieces) dw_hX7_joinPieces ⟨Nat.le_of_ble_eq_true rfl, Nat.le_of_ble_eq_true rfl⟩ ⟨Nat.zero_le _, Nat.zero_le _⟩ hl.1 (Nat.le_of_ble_eq_true rfl) rfl dX7_grow_86 (fun H locs Z => ?_)
            refine lv_goto (tgt := 31) hx hb dX7_grow_89 (by decide) ?_
            obtain rfl := dw_s1 h
            exact ih31  μ21 H locs ls Z (lv_sub hl [0, 1, 2] rfl) hq31
    exact L31 1000 μ9 H locs ls Z (lv_sub hl [0, 1, 2] rfl) h
  have L2 : ∀ (n2 : Nat) (x1 : Int32) (μ2 : dw_M) (H : Heap) (locs : List Loc) (ls : Array Slot), dw_Z Γ (dw_A Γ) s.heap μ2 H locs → lv_has ls 4 [(0, .ref (dw_ad Γ 139)), (1, .ref (dw_ad Γ 2)), (2, .ref (dw_ad Γ 62)), (3, .int x1)] → dw_bd (dw_wh (fun v => sX7_grow_2 v.1 v.2) n2 (x1, μ2)) kc2 = some ν → W p l e (dw_rm 4 92) s m ([.ref (dw_ad Γ 139), .ref (dw_ad Γ 2), .ref (dw_ad Γ 62)] : List Value).toArray below meth c H locs 0 0 (MQ below (dw_Qv Γ ν) ([.ref (dw_ad Γ 139), .ref (dw_ad Γ 2), .ref (dw_ad Γ 62)] : List Value).toArray s 0 0 (dw_A Γ)) (F0 m 2 ls []) := by
    clear h
    intro n2
    induction n2 with
    | zero =>
      intro x1 μ2 H locs ls Z hl h
      exact (dw_wh0 h).elim
    | succ n2 ih2 =>
      intro x1 μ2 H locs ls Z hl h
      obtain ⟨q2, hs, hq2⟩ := dw_whB h
      have h : sX7_grow_2 x1 μ2 = some q2 := hs
      unfold sX7_grow_2 at h
      refine lv_iload_n hx hb dX7_grow_2 rfl (lv_at hl 3 rfl) ?_
      refine lv_bipush (v := (36 : Int32)) hx hb dX7_grow_3 (by decide) ?_
      refine lv_icmp_ge (tgt := 21) hx hb dX7_grow_5 (by decide) (fun c3 => ?_) (fun c3 => ?_)
      · have h := dw_ifT c3 h
        obtain rfl := dw_s1 h
        exact E2  μ2 H locs ls Z (lv_sub hl [0, 1, 2] rfl) hq2
      · have h := dw_ifF c3 h
        refine lv_aload_n hx hb dX7_grow_8 rfl (lv_at hl 0 rfl) ?_
        refine dw_g7_0 (t := 140) C0 Z dw_kc139 tw_fX7_9 rfl dX7_grow_9 ?_
        refine lv_iload_n hx hb dX7_grow_12 rfl (lv_at hl 3 rfl) ?_
        refine lv_iload_n hx hb dX7_grow_13 rfl (lv_at hl 3 rfl) ?_
        obtain ⟨g4, h⟩ := dw_gdS h
        refine dw_ast C0 Z dw_hA dw_kc140 dw_lc140 g4 dX7_grow_14 (fun μ5 eμ5 H locs Z => ?_)
        have h := dw_nmS eμ5 h
        obtain ⟨x6, ex6⟩ := dw_eg (x1 + (1 : Int32))
        have h := dw_nmS ex6 h
        refine lv_iinc (v := x6) (lv' := [(3, .int x6), (0, .ref (dw_ad Γ 139)), (1, .ref (dw_ad Γ 2)), (2, .ref (dw_ad Γ 62))]) hx hb dX7_grow_15 hl (k := 3) rfl (by rw [ex6]; rfl) (by decide) rfl (fun ls hl => ?_)
        refine lv_goto (tgt := 2) hx hb dX7_grow_18 (by decide) ?_
        obtain rfl := dw_s1 h
        exact ih2 x6 μ5 H locs ls Z (lv_sub hl [1, 2, 3, 0] rfl) hq2
  exact L2 1000 (0 : Int32) μ H locs ls Z (lv_sub hl [1, 2, 3, 0] rfl) h
