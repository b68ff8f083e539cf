def fX8_clear (μ : dw_M) : Option (dw_M) :=
  dw_bd (fX9_fill μ 54 (0 : Int32)) (fun μ2 =>
  dw_bd (fX9_fill μ2 55 (0 : Int32)) (fun μ4 =>
  dw_bd (fX9_fill μ4 56 (0 : Int32)) (fun μ6 =>
  dw_bd (fX9_fill μ6 57 (0 : Int32)) (fun μ8 =>
  dw_bd (fX9_fill μ8 58 (0 : Int32)) (fun μ10 =>
  dw_bd (fX9_fill μ10 59 (0 : Int32)) (fun μ12 =>
  dw_nm (fX2_clear μ12 60) (fun μ13 =>
  dw_nm (dw_st μ13 53 7 (0 : Int32)) (fun μ14 =>
  dw_nm (dw_st μ14 53 8 (0 : Int32)) (fun μ15 =>
  some μ15)))))))))
set_option maxHeartbeats 4000000 in
set_option maxRecDepth 100000 in
theorem kX8_clear (l : Launch) (Γ : dw_G) (hj : dw_inj Γ) (μ : dw_M)  {ν : dw_M} (h : fX8_clear μ = some ν) : Met l yX8_clear (dw_ws yX8_clear cX8_clear 1 none) (dw_rm 1 22) (dw_P Γ ([.ref (dw_ad Γ 53)] : List Value) μ) (dw_Qv Γ ν) 0 0 (dw_A Γ) := by
  refine dw_met (own := RX8) rfl rfl (Nat.le_of_ble_eq_true rfl) hj ?_
  intro p e s m below meth c C0 hr hlk Z ls hl
  have hx := C0.1
  have hb := C0.2.1
  have hl : lv_has ls 1 [(0, .ref (dw_ad Γ 53))] := hl
  suffices key : ∀ (H : Heap) (locs : List Loc), dw_Z Γ (dw_A Γ) s.heap μ H locs → W p l e (dw_rm 1 22) s m ([.ref (dw_ad Γ 53)] : List Value).toArray below meth c H locs 0 0 (MQ below (dw_Qv Γ ν) ([.ref (dw_ad Γ 53)] : List Value).toArray s 0 0 (dw_A Γ)) (F0 m 0 ls []) from key _ _ Z
  clear Z
  intro H locs Z
  unfold fX8_clear at h
  refine lv_aload_n hx hb dX8_clear_0 rfl (lv_at hl 0 rfl) ?_
  refine dw_g8_0 (t := 54) C0 Z dw_kc53 tw_fX8_9 rfl dX8_clear_1 ?_
  refine lv_iconst (v := (0 : Int32)) hx hb dX8_clear_4 (by decide) ?_
  obtain ⟨μ2, hc1, h⟩ := dw_bdS h
  refine dw_cNv (host := RX9) C0 Z dw_hA (As := [.ref (dw_ad Γ 54), .int (0 : Int32)]) (rest := []) (kX9_fill l Γ hj μ 54 dw_kc54 (0 : Int32) hc1) (by decide +kernel) tw_kX9_fill tw_iX9 tw_sX9_fill dw_hX9_fill ⟨Nat.le_of_ble_eq_true rfl, Nat.le_of_ble_eq_true rfl⟩ ⟨Nat.zero_le _, Nat.zero_le _⟩ hl.1 (Nat.le_of_ble_eq_true rfl) rfl dX8_clear_5 (fun H locs Z => ?_)
  refine lv_aload_n hx hb dX8_clear_8 rfl (lv_at hl 0 rfl) ?_
  refine dw_g8_1 (t := 55) C0 Z dw_kc53 tw_fX8_15 rfl dX8_clear_9 ?_
  refine lv_iconst (v := (0 : Int32)) hx hb dX8_clear_12 (by decide) ?_
  obtain ⟨μ4, hc3, h⟩ := dw_bdS h
  refine dw_cNv (host := RX9) C0 Z dw_hA (As := [.ref (dw_ad Γ 55), .int (0 : Int32)]) (rest := []) (kX9_fill l Γ hj μ2 55 dw_kc55 (0 : Int32) hc3) (by decide +kernel) tw_kX9_fill tw_iX9 tw_sX9_fill dw_hX9_fill ⟨Nat.le_of_ble_eq_true rfl, Nat.le_of_ble_eq_true rfl⟩ ⟨Nat.zero_le _, Nat.zero_le _⟩ hl.1 (Nat.le_of_ble_eq_true rfl) rfl dX8_clear_13 (fun H locs Z => ?_)
  refine lv_aload_n hx hb dX8_clear_16 rfl (lv_at hl 0 rfl) ?_
  refine dw_g8_2 (t := 56) C0 Z dw_kc53 tw_fX8_18 rfl dX8_clear_17 ?_
  refine lv_iconst (v := (0 : Int32)) hx hb dX8_clear_20 (by decide) ?_
  obtain ⟨μ6, hc5, h⟩ := dw_bdS h
  refine dw_cNv (host := RX9) C0 Z dw_hA (As := [.ref (dw_ad Γ 56), .int (0 : Int32)]) (rest := []) (kX9_fill l Γ hj μ4 56 dw_kc56 (0 : Int32) hc5) (by decide +kernel) tw_kX9_fill tw_iX9 tw_sX9_fill dw_hX9_fill ⟨Nat.le_of_ble_eq_true rfl, Nat.le_of_ble_eq_true rfl⟩ ⟨Nat.zero_le _, Nat.zero_le _⟩ hl.1 (Nat.le_of_ble_eq_true rfl) rfl dX8_clear_21 (fun H locs Z => ?_)
  refine lv_aload_n hx hb dX8_clear_24 rfl (lv_at hl 0 rfl) ?_
  refine dw_g8_3 (t := 57) C0 Z dw_kc53 tw_fX8_21 rfl dX8_clear_25 ?_
  refine lv_iconst (v := (0 : Int32)) hx hb dX8_clear_28 (by decide) ?_
  obtain ⟨μ8, hc7, h⟩ := dw_bdS h
  refine dw_cNv (host := RX9) C0 Z dw_hA (As := [.ref (dw_ad Γ 57), .int (0 : Int32)]) (rest := []) (kX9_fill l Γ hj μ6 57 dw_kc57 (0 : Int32) hc7) (by decide +kernel) tw_kX9_fill tw_iX9 tw_sX9_fill dw_hX9_fill ⟨Nat.le_of_ble_eq_true rfl, Nat.le_of_ble_eq_true rfl⟩ ⟨Nat.zero_le _, Nat.zero_le _⟩ hl.1 (Nat.le_of_ble_eq_true rfl) rfl dX8_clear_29 (fun H locs Z => ?_)
  refine lv_aload_n hx hb dX8_clear_32 rfl (lv_at hl 0 rfl) ?_
  refine dw_g8_4 (t := 58) C0 Z dw_kc53 tw_fX8_24 rfl dX8_clear_33 ?_
  refine lv_iconst (v := (0 : Int32)) hx hb dX8_clear_36 (by decide) ?_
  obtain ⟨μ10, hc9, h⟩ := dw_bdS h
  refine dw_cNv (host := RX9) C0 Z dw_hA (As := [.ref (dw_ad Γ 58), .int (0 : Int32)]) (rest := []) (kX9_fill l Γ hj μ8 58 dw_kc58 (0 : Int32) hc9) (by decide +kernel) tw_kX9_fill tw_iX9 tw_sX9_fill dw_hX9_fill ⟨Nat.le_of_ble_eq_true rfl, Nat.le_of_ble_eq_true rfl⟩ ⟨Nat.zero_le _, Nat.zero_le _⟩ hl.1 (Nat.le_of_ble_eq_true rfl) rfl dX8_clear_37 (fun H locs Z => ?_)
  refine lv_aload_n hx hb dX8_clear_40 rfl (lv_at hl 0 rfl) ?_
  refine dw_g8_5 (t := 59) C0 Z dw_kc53 tw_fX8_27 rfl dX8_clear_41 ?_
  refine lv_iconst (v := (0 : Int32)) hx hb dX8_clear_44 (by decide) ?_
  obtain ⟨μ12, hc11, h⟩ := dw_bdS h
  refine dw_cNv (host := RX9) C0 Z dw_hA (As := [.ref (dw_ad Γ 59), .int (0 : Int32)]) (rest := []) (kX9_fill l Γ hj μ10 59 dw_kc59 (0 : Int32) hc11) (by decide +kernel) tw_kX9_fill tw_iX9 tw_sX9_fill dw_hX9_fill ⟨Nat.le_of_ble_eq_true rfl, Nat.le_of_ble_eq_true rfl⟩ ⟨Nat.zero_le _, Nat.zero_le _⟩ hl.1 (Nat.le_of_ble_eq_true rfl) rfl dX8_clear_45 (fun H locs Z => ?_)
  refine lv_aload_n hx hb dX8_clear_48 rfl (lv_at hl 0 rfl) ?_
  refine dw_g8_6 (t := 60) C0 Z dw_kc53 tw_fX8_33 rfl dX8_clear_49 ?_
  obtain ⟨μ13, eμ13⟩ := dw_eg (fX2_clear μ12 60)
  have h := dw_nmS eμ13 h
  refine dw_cVv C0 Z dw_hA (dw_lt dw_kc60 (by decide)) (dw_cz2 dw_kc60) rfl (As := []) (rest := []) (kX2_clear l Γ hj μ12 60 dw_kc60 eμ13.symm) (dw_gV tw_lX8_41 tw_vX2_clear tw_eX2_clear tw_iX2 tw_kX2_clear) dw_hX2_clear ⟨Nat.le_of_ble_eq_true rfl, Nat.le_of_ble_eq_true rfl⟩ ⟨Nat.zero_le _, Nat.zero_le _⟩ hl.1 (Nat.le_of_ble_eq_true rfl) rfl dX8_clear_52 (fun H locs Z => ?_)
  refine lv_aload_n hx hb dX8_clear_55 rfl (lv_at hl 0 rfl) ?_
  refine lv_iconst (v := (0 : Int32)) hx hb dX8_clear_56 (by decide) ?_
  refine dw_p8_7 C0 Z dw_hA dw_kc53 tw_fX8_44 dX8_clear_57 (fun μ14 eμ14 H locs Z => ?_)
  have h := dw_nmS eμ14 h
  refine lv_aload_n hx hb dX8_clear_60 rfl (lv_at hl 0 rfl) ?_
  refine lv_iconst (v := (0 : Int32)) hx hb dX8_clear_61 (by decide) ?_
  refine dw_p8_8 C0 Z dw_hA dw_kc53 tw_fX8_48 dX8_clear_62 (fun μ15 eμ15 H locs Z => ?_)
  have h := dw_nmS eμ15 h
  obtain rfl := dw_s1 h
  exact dw_vret C0 Z hr hlk dX8_clear_65

def sX8_putStanding_2  (x1 : Int32) (μ2 : dw_M) : Option ((Int32 × dw_M) ⊕ ((dw_M))) :=
  if (36 : Int32) ≤ x1 then (
  some (.inr μ2))
  else (
  dw_gd (dw_ok x1 36) (
  if (μ2.1 54 x1.toNatClampNeg) ≤ 0 then (
  dw_n2 (fX2_put μ2 63 x1 (0 : Int32)) (fun r7 μ6 =>
  dw_nm (x1 + (1 : Int32)) (fun x8 =>
  some (.inl (x8, μ6)))))
  else (
  dw_n2 (fX2_put μ2 63 x1 (1 : Int32)) (fun r10 μ9 =>
  dw_nm (x1 + (1 : Int32)) (fun x11 =>
  some (.inl (x11, μ9)))))))
def fX8_putStanding (μ : dw_M) : Option (dw_M) :=
  dw_bd (dw_wh (fun v => sX8_putStanding_2 v.1 v.2) 1000 ((0 : Int32), μ))
    (fun μ12 => some μ12)
set_option maxHeartbeats 4000000 in
set_option maxRecDepth 100000 in
theorem kX8_putStanding (l : Launch) (Γ : dw_G) (hj : dw_inj Γ) (μ : dw_M)  {ν : dw_M} (h : fX8_putStanding μ = some ν) : Met l yX8_putStanding (dw_ws yX8_putStanding cX8_putStanding 3 none) (dw_rm 2 43) (dw_P Γ ([.ref (dw_ad Γ 53), .ref (dw_ad Γ 63)] : List Value) μ) (dw_Qv Γ ν) 0 0 (dw_A Γ) := by
  refine dw_met (own := RX8) rfl rfl (Nat.le_of_ble_eq_true rfl) hj ?_
  intro p e s m below meth c C0 hr hlk Z ls hl
  have hx := C0.1
  have hb := C0.2.1
  have hl : lv_has ls 3 [(0, .ref (dw_ad Γ 53)), (1, .ref (dw_ad Γ 63))] := hl
  suffices key : ∀ (H : Heap) (locs : List Loc), dw_Z Γ (dw_A Γ) s.heap μ H locs → W p l e (dw_rm 2 43) s m ([.ref (dw_ad Γ 53), .ref (dw_ad Γ 63)] : List Value).toArray below meth c H locs 0 0 (MQ below (dw_Qv Γ ν) ([.ref (dw_ad Γ 53), .ref (dw_ad Γ 63)] : List Value).toArray s 0 0 (dw_A Γ)) (F0 m 0 ls []) from key _ _ Z
  clear Z
  intro H locs Z
  unfold fX8_putStanding at h
  refine lv_iconst (v := (0 : Int32)) hx hb dX8_putStanding_0 (by decide) ?_
  refine lv_istore_n (lv' := [(2, .int (0 : Int32)), (0, .ref (dw_ad Γ 53)), (1, .ref (dw_ad Γ 63))]) hx hb dX8_putStanding_1 rfl hl (by decide) rfl (fun ls hl => ?_)
  obtain ⟨kc2, ekc2, h⟩ := dw_bdK h
  have E2 : ∀ (μ12 : dw_M) (H : Heap) (locs : List Loc) (ls : Array Slot), dw_Z Γ (dw_A Γ) s.heap μ12 H locs → lv_has ls 3 [] → kc2 μ12 = some ν → W p l e (dw_rm 2 43) s m ([.ref (dw_ad Γ 53), .ref (dw_ad Γ 63)] : List Value).toArray below meth c H locs 0 0 (MQ below (dw_Qv Γ ν) ([.ref (dw_ad Γ 53), .ref (dw_ad Γ 63)] : List Value).toArray s 0 0 (dw_A Γ)) (F0 m 34 ls []) := by
    intro μ12 H locs ls Z hl h
    rw [ekc2] at h
    dsimp only at h
    obtain rfl := dw_s1 h
    exact dw_vret C0 Z hr hlk dX8_putStanding_34
  have L2 : ∀ (n2 : Nat) (x1 : Int32) (μ2 : dw_M) (H : Heap) (locs : List Loc) (ls : Array Slot), dw_Z Γ (dw_A Γ) s.heap μ2 H locs → lv_has ls 3 [(0, .ref (dw_ad Γ 53)), (1, .ref (dw_ad Γ 63)), (2, .int x1)] → dw_bd (dw_wh (fun v => sX8_putStanding_2 v.1 v.2) n2 (x1, μ2)) kc2 = some ν → W p l e (dw_rm 2 43) s m ([.ref (dw_ad Γ 53), .ref (dw_ad Γ 63)] : List Value).toArray below meth c H locs 0 0 (MQ below (dw_Qv Γ ν) ([.ref (dw_ad Γ 53), .ref (dw_ad Γ 63)] : List Value).toArray s 0 0 (dw_A Γ)) (F0 m 2 ls []) := by
    clear h
    intro n2
    induction n2 with
    | zero =>
      intro x1 μ2 H locs ls Z hl h
      exact (dw_wh0 h).elim
    | succ n2 ih2 =>
      intro x1 μ2 H locs ls Z hl h
      obtain ⟨q2, hs, hq2⟩ := dw_whB h
      have h : sX8_putStanding_2 x1 μ2 = some q2 := hs
      unfold sX8_putStanding_2 at h
      refine lv_iload_n hx hb dX8_putStanding_2 rfl (lv_at hl 2 rfl) ?_
      refine lv_bipush (v := (36 : Int32)) hx hb dX8_putStanding_3 (by decide) ?_
      refine lv_icmp_ge (tgt := 34) hx hb dX8_putStanding_5 (by decide) (fun c3 => ?_) (fun c3 => ?_)
      · have h := dw_ifT c3 h
        obtain rfl := dw_s1 h
        exact E2  μ2 H locs ls Z (lv_sub hl [] rfl) hq2
      · have h := dw_ifF c3 h
        refine lv_aload_n hx hb dX8_putStanding_8 rfl (lv_at hl 1 rfl) ?_
        refine lv_iload_n hx hb dX8_putStanding_9 rfl (lv_at hl 2 rfl) ?_
        refine lv_aload_n hx hb dX8_putStanding_10 rfl (lv_at hl 0 rfl) ?_
        refine dw_g8_0 (t := 54) C0 Z dw_kc53 tw_fX8_9 rfl dX8_putStanding_11 ?_
        refine lv_iload_n hx hb dX8_putStanding_14 rfl (lv_at hl 2 rfl) ?_
        obtain ⟨g4, h⟩ := dw_gdS h
        refine dw_ald C0 Z dw_kc54 dw_lc54 g4 dX8_putStanding_15 ?_
        refine lv_if_le (tgt := 23) hx hb dX8_putStanding_16 (by decide) (fun c5 => ?_) (fun c5 => ?_)
        · have h := dw_ifT c5 h
          refine lv_iconst (v := (0 : Int32)) hx hb dX8_putStanding_23 (by decide) ?_
          obtain ⟨r7, μ6, eμ6, h⟩ := dw_n2S h
          refine dw_cVi C0 Z dw_hA (dw_lt dw_kc63 (by decide)) (dw_cz2 dw_kc63) rfl (As := [.int x1, .int (0 : Int32)]) (rest := []) (kX2_put l Γ hj μ2 63 dw_kc63 x1 (0 : Int32) eμ6) (dw_gV tw_lX8_59 tw_vX2_put tw_eX2_put tw_iX2 tw_kX2_put) dw_hX2_put ⟨Nat.le_of_ble_eq_true rfl, Nat.le_of_ble_eq_true rfl⟩ ⟨Nat.zero_le _, Nat.zero_le _⟩ hl.1 (Nat.le_of_ble_eq_true rfl) rfl dX8_putStanding_24 (fun H locs Z => ?_)
          refine lv_pop hx hb dX8_putStanding_27 rfl ?_
          obtain ⟨x8, ex8⟩ := dw_eg (x1 + (1 : Int32))
          have h := dw_nmS ex8 h
          refine lv_iinc (v := x8) (lv' := [(2, .int x8), (0, .ref (dw_ad Γ 53)), (1, .ref (dw_ad Γ 63))]) hx hb dX8_putStanding_28 hl (k := 2) rfl (by rw [ex8]; rfl) (by decide) rfl (fun ls hl => ?_)
          refine lv_goto (tgt := 2) hx hb dX8_putStanding_31 (by decide) ?_
          obtain rfl := dw_s1 h
          exact ih2 x8 μ6 H locs ls Z (lv_sub hl [1, 2, 0] rfl) hq2
        · have h := dw_ifF c5 h
          refine lv_iconst (v := (1 : Int32)) hx hb dX8_putStanding_19 (by decide) ?_
          refine lv_goto (tgt := 24) hx hb dX8_putStanding_20 (by decide) ?_
          obtain ⟨r10, μ9, eμ9, h⟩ := dw_n2S h
          refine dw_cVi C0 Z dw_hA (dw_lt dw_kc63 (by decide)) (dw_cz2 dw_kc63) rfl (As := [.int x1, .int (1 : Int32)]) (rest := []) (kX2_put l Γ hj μ2 63 dw_kc63 x1 (1 : Int32) eμ9) (dw_gV tw_lX8_59 tw_vX2_put tw_eX2_put tw_iX2 tw_kX2_put) dw_hX2_put ⟨Nat.le_of_ble_eq_true rfl, Nat.le_of_ble_eq_true rfl⟩ ⟨Nat.zero_le _, Nat.zero_le _⟩ hl.1 (Nat.le_of_ble_eq_true rfl) rfl dX8_putStanding_24 (fun H locs Z => ?_)
          refine lv_pop hx hb dX8_putStanding_27 rfl ?_
          obtain ⟨x11, ex11⟩ := dw_eg (x1 + (1 : Int32))
          have h := dw_nmS ex11 h
          refine lv_iinc (v := x11) (lv' := [(2, .int x11), (0, .ref (dw_ad Γ 53)), (1, .ref (dw_ad Γ 63))]) hx hb dX8_putStanding_28 hl (k := 2) rfl (by rw [ex11]; rfl) (by decide) rfl (fun ls hl => ?_)
          refine lv_goto (tgt := 2) hx hb dX8_putStanding_31 (by decide) ?_
          obtain rfl := dw_s1 h
          exact ih2 x11 μ9 H locs ls Z (lv_sub hl [1, 2, 0] rfl) hq2
  exact L2 1000 (0 : Int32) μ H locs ls Z (lv_sub hl [1, 2, 0] rfl) h

def sX8_isStandingJustOn_2 (μ : dw_M) (x1 : Int32) : Option ((Int32) ⊕ ((Unit) ⊕ (Int32))) :=
  if (36 : Int32) ≤ x1 then (
  some (.inr (.inl ())))
  else (
  dw_gd (dw_ok x1 36) (
  dw_jm (fun (x4 : Int32) =>
  if (fX2_has μ 63 x1) = x4 then (
  dw_nm (x1 + (1 : Int32)) (fun x6 =>
  some (.inl x6)))
  else (
  some (.inr (.inr (0 : Int32))))) (fun k27 =>
  if (μ.1 128 x1.toNatClampNeg) ≤ 0 then (
  k27 (0 : Int32))
  else (
  k27 (1 : Int32)))))
def fX8_isStandingJustOn (μ : dw_M) : Option (Int32) :=
  dw_bd (dw_wh (fun v => sX8_isStandingJustOn_2 μ v) 1000 (0 : Int32))
    (Sum.elim (fun _ => some (1 : Int32)) (fun r => some r))
set_option maxHeartbeats 4000000 in
set_option maxRecDepth 100000 in
theorem kX8_isStandingJustOn (l : Launch) (Γ : dw_G) (hj : dw_inj Γ) (μ : dw_M)  {r : Int32} (h : fX8_isStandingJustOn μ = some r) : Met l yX8_isStandingJustOn (dw_ws yX8_isStandingJustOn cX8_isStandingJustOn 3 (some .boolean)) (dw_rm 1 21) (dw_P Γ ([.ref (dw_ad Γ 127), .ref (dw_ad Γ 63)] : List Value) μ) (dw_Qi Γ r μ) 0 0 (dw_A Γ) := by
  refine dw_met (own := RX8) rfl rfl (Nat.le_of_ble_eq_true rfl) hj ?_
  intro p e s m below meth c C0 hr hlk Z ls hl
  have hx := C0.1
  have hb := C0.2.1
  have hl : lv_has ls 3 [(0, .ref (dw_ad Γ 127)), (1, .ref (dw_ad Γ 63))] := hl
  suffices key : ∀ (H : Heap) (locs : List Loc), dw_Z Γ (dw_A Γ) s.heap μ H locs → W p l e (dw_rm 1 21) s m ([.ref (dw_ad Γ 127), .ref (dw_ad Γ 63)] : List Value).toArray below meth c H locs 0 0 (MQ below (dw_Qi Γ r μ) ([.ref (dw_ad Γ 127), .ref (dw_ad Γ 63)] : List Value).toArray s 0 0 (dw_A Γ)) (F0 m 0 ls []) from key _ _ Z
  clear Z
  intro H locs Z
  unfold fX8_isStandingJustOn at h
  refine lv_iconst (v := (0 : Int32)) hx hb dX8_isStandingJustOn_0 (by decide) ?_
  refine lv_istore_n (lv' := [(2, .int (0 : Int32)), (0, .ref (dw_ad Γ 127)), (1, .ref (dw_ad Γ 63))]) hx hb dX8_isStandingJustOn_1 rfl hl (by decide) rfl (fun ls hl => ?_)
  obtain ⟨kc2, ekc2, h⟩ := dw_bdK h
  have E2 : ∀ (H : Heap) (locs : List Loc) (ls : Array Slot), dw_Z Γ (dw_A Γ) s.heap μ H locs → lv_has ls 3 [] → kc2 (.inl ()) = some r → W p l e (dw_rm 1 21) s m ([.ref (dw_ad Γ 127), .ref (dw_ad Γ 63)] : List Value).toArray below meth c H locs 0 0 (MQ below (dw_Qi Γ r μ) ([.ref (dw_ad Γ 127), .ref (dw_ad Γ 63)] : List Value).toArray s 0 0 (dw_A Γ)) (F0 m 38 ls []) := by
    intro  H locs ls Z hl h
    rw [ekc2] at h
    dsimp only [Sum.elim] at h
    refine lv_iconst (v := (1 : Int32)) hx hb dX8_isStandingJustOn_38 (by decide) ?_
    obtain rfl := dw_s1 h
    exact dw_zret C0 Z hr hlk rfl dX8_isStandingJustOn_39
  have L2 : ∀ (n2 : Nat) (x1 : Int32) (H : Heap) (locs : List Loc) (ls : Array Slot), dw_Z Γ (dw_A Γ) s.heap μ H locs → lv_has ls 3 [(0, .ref (dw_ad Γ 127)), (1, .ref (dw_ad Γ 63)), (2, .int x1)] → dw_bd (dw_wh (fun v => sX8_isStandingJustOn_2 μ v) n2 x1) kc2 = some r → W p l e (dw_rm 1 21) s m ([.ref (dw_ad Γ 127), .ref (dw_ad Γ 63)] : List Value).toArray below meth c H locs 0 0 (MQ below (dw_Qi Γ r μ) ([.ref (dw_ad Γ 127), .ref (dw_ad Γ 63)] : List Value).toArray s 0 0 (dw_A Γ)) (F0 m 2 ls []) := by
    clear h
    intro n2
    induction n2 with
    | zero =>
      intro x1 H locs ls Z hl h
      exact (dw_wh0 h).elim
    | succ n2 ih2 =>
      intro x1 H locs ls Z hl h
      obtain ⟨q2, hs, hq2⟩ := dw_whB h
      have h : sX8_isStandingJustOn_2 μ x1 = some q2 := hs
      unfold sX8_isStandingJustOn_2 at h
      refine lv_iload_n hx hb dX8_isStandingJustOn_2 rfl (lv_at hl 2 rfl) ?_
      refine lv_bipush (v := (36 : Int32)) hx hb dX8_isStandingJustOn_3 (by decide) ?_
      refine lv_icmp_ge (tgt := 38) hx hb dX8_isStandingJustOn_5 (by decide) (fun c2 => ?_) (fun c2 => ?_)
      · have h := dw_ifT c2 h
        obtain rfl := dw_s1 h
        exact E2  H locs ls Z (lv_sub hl [] rfl) hq2
      · have h := dw_ifF c2 h
        refine lv_aload_n hx hb dX8_isStandingJustOn_8 rfl (lv_at hl 1 rfl) ?_
        refine lv_iload_n hx hb dX8_isStandingJustOn_9 rfl (lv_at hl 2 rfl) ?_
        refine dw_cVi C0 Z dw_hA (dw_lt dw_kc63 (by decide)) (dw_cz2 dw_kc63) rfl (As := [.int x1]) (rest := []) (kX2_has l Γ hj μ 63 dw_kc63 x1 rfl) (dw_gV tw_lX8_63 tw_vX2_has tw_eX2_has tw_iX2 tw_kX2_has) dw_hX2_has ⟨Nat.le_of_ble_eq_true rfl, Nat.le_of_ble_eq_true rfl⟩ ⟨Nat.zero_le _, Nat.zero_le _⟩ hl.1 (Nat.le_of_ble_eq_true rfl) rfl dX8_isStandingJustOn_10 (fun H locs Z => ?_)
        refine lv_aload_n hx hb dX8_isStandingJustOn_13 rfl (lv_at hl 0 rfl) ?_
        refine dw_g8_0 (t := 128) C0 Z dw_kc127 tw_fX8_9 rfl dX8_isStandingJustOn_14 ?_
        refine lv_iload_n hx hb dX8_isStandingJustOn_17 rfl (lv_at hl 2 rfl) ?_
        obtain ⟨g3, h⟩ := dw_gdS h
        refine dw_ald C0 Z dw_kc128 dw_lc128 g3 dX8_isStandingJustOn_18 ?_
        obtain ⟨k27, ek27, h⟩ := dw_jnS h
        have J27 : ∀ (x4 : Int32) (H : Heap) (locs : List Loc) (ls : Array Slot), dw_Z Γ (dw_A Γ) s.heap μ H locs → lv_has ls 3 [(0, .ref (dw_ad Γ 127)), (1, .ref (dw_ad Γ 63)), (2, .int x1)] → k27 x4 = some q2 → W p l e (dw_rm 1 21) s m ([.ref (dw_ad Γ 127), .ref (dw_ad Γ 63)] : List Value).toArray below meth c H locs 0 0 (MQ below (dw_Qi Γ r μ) ([.ref (dw_ad Γ 127), .ref (dw_ad Γ 63)] : List Value).toArray s 0 0 (dw_A Γ)) (F0 m 27 ls [.int x4, .int (fX2_has μ 63 x1)]) := by
          clear h
          intro x4 H locs ls Z hl h
          rw [ek27] at h
          dsimp only at h
          refine lv_icmp_eq (tgt := 32) hx hb dX8_isStandingJustOn_27 (by decide) (fun c5 => ?_) (fun c5 => ?_)
          · have h := dw_ifT c5 h
            obtain ⟨x6, ex6⟩ := dw_eg (x1 + (1 : Int32))
            have h := dw_nmS ex6 h
            refine lv_iinc (v := x6) (lv' := [(2, .int x6), (0, .ref (dw_ad Γ 127)), (1, .ref (dw_ad Γ 63))]) hx hb dX8_isStandingJustOn_32 hl (k := 2) rfl (by rw [ex6]; rfl) (by decide) rfl (fun ls hl => ?_)
            refine lv_goto (tgt := 2) hx hb dX8_isStandingJustOn_35 (by decide) ?_
            obtain rfl := dw_s1 h
            exact ih2 x6 H locs ls Z (lv_sub hl [1, 2, 0] rfl) hq2
          · have h := dw_ifF c5 h
            refine lv_iconst (v := (0 : Int32)) hx hb dX8_isStandingJustOn_30 (by decide) ?_
            obtain rfl := dw_s1 h
            have h := hq2
            dsimp only at h
            rw [ekc2] at h
            dsimp only [Sum.elim] at h
            obtain rfl := dw_s1 h
            exact dw_zret C0 Z hr hlk rfl dX8_isStandingJustOn_31
        refine lv_if_le (tgt := 26) hx hb dX8_isStandingJustOn_19 (by decide) (fun c7 => ?_) (fun c7 => ?_)
        · have h := dw_ifT c7 h
          refine lv_iconst (v := (0 : Int32)) hx hb dX8_isStandingJustOn_26 (by decide) ?_
          exact J27 (0 : Int32) H locs ls Z (lv_sub hl [0, 1, 2] rfl) h
        · have h := dw_ifF c7 h
          refine lv_iconst (v := (1 : Int32)) hx hb dX8_isStandingJustOn_22 (by decide) ?_
          refine lv_goto (tgt := 27) hx hb dX8_isStandingJustOn_23 (by decide) ?_
          exact J27 (1 : Int32) H locs ls Z (lv_sub hl [0, 1, 2] rfl) h
  exact L2 1000 (0 : Int32) H locs ls Z (lv_sub hl [1, 2, 0] rfl) h

def fX9_isWithin (a1 : Int32) (a2 : Int32) (a3 : Int32) : Int32 :=
  if a1 < a2 then (
   (0 : Int32))
  else (
  if a3 < a1 then (
   (0 : Int32))
  else (
   (1 : Int32)))
set_option maxHeartbeats 4000000 in
set_option maxRecDepth 100000 in
theorem kX9_isWithin (l : Launch) (Γ : dw_G) (hj : dw_inj Γ) (μ : dw_M) (a1 : Int32) (a2 : Int32) (a3 : Int32) {r : Int32} (h : fX9_isWithin a1 a2 a3 = r) : Met l yX9_isWithin (dw_ws yX9_isWithin cX9_isWithin 3 (some .boolean)) (dw_rm 0 0) (dw_P Γ ([.int a1, .int a2, .int a3] : List Value) μ) (dw_Qi Γ r μ) 0 0 (dw_A Γ) := by
  refine dw_met (own := RX9) rfl rfl (Nat.le_of_ble_eq_true rfl) hj ?_
  intro p e s m below meth c C0 hr hlk Z ls hl
  have hx := C0.1
  have hb := C0.2.1
  have hl : lv_has ls 3 [(0, .int a1), (1, .int a2), (2, .int a3)] := hl
  suffices key : ∀ (H : Heap) (locs : List Loc), dw_Z Γ (dw_A Γ) s.heap μ H locs → W p l e (dw_rm 0 0) s m ([.int a1, .int a2, .int a3] : List Value).toArray below meth c H locs 0 0 (MQ below (dw_Qi Γ r μ) ([.int a1, .int a2, .int a3] : List Value).toArray s 0 0 (dw_A Γ)) (F0 m 0 ls []) from key _ _ Z
  clear Z
  intro H locs Z
  unfold fX9_isWithin at h
  refine lv_iload_n hx hb dX9_isWithin_0 rfl (lv_at hl 0 rfl) ?_
  refine lv_iload_n hx hb dX9_isWithin_1 rfl (lv_at hl 1 rfl) ?_
  refine lv_icmp_lt (tgt := 14) hx hb dX9_isWithin_2 (by decide) (fun c1 => ?_) (fun c1 => ?_)
  · have h := dw_ifT c1 h
    refine lv_iconst (v := (0 : Int32)) hx hb dX9_isWithin_14 (by decide) ?_
    obtain rfl := dw_t1 h
    exact dw_zret C0 Z hr hlk rfl dX9_isWithin_15
  · have h := dw_ifF c1 h
    refine lv_iload_n hx hb dX9_isWithin_5 rfl (lv_at hl 0 rfl) ?_
    refine lv_iload_n hx hb dX9_isWithin_6 rfl (lv_at hl 2 rfl) ?_
    refine lv_icmp_gt (tgt := 14) hx hb dX9_isWithin_7 (by decide) (fun c2 => ?_) (fun c2 => ?_)
    · have h := dw_ifT c2 h
      refine lv_iconst (v := (0 : Int32)) hx hb dX9_isWithin_14 (by decide) ?_
      obtain rfl := dw_t1 h
      exact dw_zret C0 Z hr hlk rfl dX9_isWithin_15
    · have h := dw_ifF c2 h
      refine lv_iconst (v := (1 : Int32)) hx hb dX9_isWithin_10 (by decide) ?_
      refine lv_goto (tgt := 15) hx hb dX9_isWithin_11 (by decide) ?_
      obtain rfl := dw_t1 h
      exact dw_zret C0 Z hr hlk rfl dX9_isWithin_15
theorem zX9_isWithin (a1 : Int32) (a2 : Int32) (a3 : Int32) : narrow .boolean (.int (fX9_isWithin a1 a2 a3)) = .int (fX9_isWithin a1 a2 a3) := by
  unfold fX9_isWithin
  repeat' split
  all_goals first | rfl

def fX9_land (μ : dw_M) (a1 : Int32) (a2 : Int32) : Option (Int32 × dw_M) :=
  if (fX9_isWithin a1 (1 : Int32) (6 : Int32)) = 0 then (
  some ((-1 : Int32), μ))
  else (
  if (fX9_isWithin a2 (1 : Int32) (6 : Int32)) = 0 then (
  some ((-1 : Int32), μ))
  else (
  dw_bd (fX1_renew μ a1 a2) (fun μ4 =>
  dw_nm (fX3_clear μ4 10) (fun μ5 =>
  dw_nm (dw_st μ5 11 1 (0 : Int32)) (fun μ6 =>
  dw_bd (fX8_clear μ6) (fun μ8 =>
  dw_bd (fX9_fill μ8 61 (0 : Int32)) (fun μ10 =>
  dw_nm (fX2_clear μ10 62) (fun μ11 =>
  dw_nm (fX2_clear μ11 63) (fun μ12 =>
  some ((μ12.1 2 1), μ12))))))))))
set_option maxHeartbeats 4000000 in
set_option maxRecDepth 100000 in
theorem kX9_land (l : Launch) (Γ : dw_G) (hj : dw_inj Γ) (μ : dw_M) (a1 : Int32) (a2 : Int32) {r : Int32} {ν : dw_M} (h : fX9_land μ a1 a2 = some (r, ν)) : Met l yX9_land (dw_ws yX9_land cX9_land 3 (some .int)) (dw_rm 2 45) (dw_P Γ ([.ref (dw_ad Γ 0), .int a1, .int a2] : List Value) μ) (dw_Qi Γ r ν) 0 0 (dw_A Γ) := by
  refine dw_met (own := RX9) rfl rfl (Nat.le_of_ble_eq_true rfl) hj ?_
  intro p e s m below meth c C0 hr hlk Z ls hl
  have hx := C0.1
  have hb := C0.2.1
  have hl : lv_has ls 3 [(0, .ref (dw_ad Γ 0)), (1, .int a1), (2, .int a2)] := hl
  suffices key : ∀ (H : Heap) (locs : List Loc), dw_Z Γ (dw_A Γ) s.heap μ H locs → W p l e (dw_rm 2 45) s m ([.ref (dw_ad Γ 0), .int a1, .int a2] : List Value).toArray below meth c H locs 0 0 (MQ below (dw_Qi Γ r ν) ([.ref (dw_ad Γ 0), .int a1, .int a2] : List Value).toArray s 0 0 (dw_A Γ)) (F0 m 0 ls []) from key _ _ Z
  clear Z
  intro H locs Z
  unfold fX9_land at h
  refine lv_iload_n hx hb dX9_land_0 rfl (lv_at hl 1 rfl) ?_
  refine lv_iconst (v := (1 : Int32)) hx hb dX9_land_1 (by decide) ?_
  refine lv_bipush (v := (6 : Int32)) hx hb dX9_land_2 (by decide) ?_
  refine dw_cSi C0 Z dw_hA (As := [.int a1, .int (1 : Int32), .int (6 : Int32)]) (rest := []) (kX9_isWithin l Γ hj μ a1 (1 : Int32) (6 : Int32) rfl) (dw_gS tw_lX9_44 tw_sX9_isWithin tw_iX9 tw_kX9_isWithin) dw_hX9_isWithin ⟨Nat.le_of_ble_eq_true rfl, Nat.le_of_ble_eq_true rfl⟩ ⟨Nat.zero_le _, Nat.zero_le _⟩ hl.1 (Nat.le_of_ble_eq_true rfl) rfl dX9_land_4 (fun H locs Z => ?_)
  refine lv_if_eq (tgt := 20) hx hb dX9_land_7 (by decide) (fun c1 => ?_) (fun c1 => ?_)
  · have h := dw_ifT c1 h
    refine lv_iconst (v := (-1 : Int32)) hx hb dX9_land_20 (by decide) ?_
    obtain ⟨rfl, rfl⟩ := dw_s2 h
    exact dw_iret C0 Z hr hlk dX9_land_21
  · have h := dw_ifF c1 h
    refine lv_iload_n hx hb dX9_land_10 rfl (lv_at hl 2 rfl) ?_
    refine lv_iconst (v := (1 : Int32)) hx hb dX9_land_11 (by decide) ?_
    refine lv_bipush (v := (6 : Int32)) hx hb dX9_land_12 (by decide) ?_
    refine dw_cSi C0 Z dw_hA (As := [.int a2, .int (1 : Int32), .int (6 : Int32)]) (rest := []) (kX9_isWithin l Γ hj μ a2 (1 : Int32) (6 : Int32) rfl) (dw_gS tw_lX9_44 tw_sX9_isWithin tw_iX9 tw_kX9_isWithin) dw_hX9_isWithin ⟨Nat.le_of_ble_eq_true rfl, Nat.le_of_ble_eq_true rfl⟩ ⟨Nat.zero_le _, Nat.zero_le _⟩ hl.1 (Nat.le_of_ble_eq_true rfl) rfl dX9_land_14 (fun H locs Z => ?_)
    refine lv_if_ne (tgt := 22) hx hb dX9_land_17 (by decide) (fun c2 => ?_) (fun c2 => ?_)
    · have h := dw_ifF c2 h
      refine lv_aload_n hx hb dX9_land_22 rfl (lv_at hl 0 rfl) ?_
      refine dw_g9_0 (t := 1) C0 Z dw_kc0 tw_fX9_12 rfl dX9_land_23 ?_
      refine dw_g6_0 (t := 2) C0 Z dw_kc1 tw_fX9_48 rfl dX9_land_26 ?_
      refine lv_iload_n hx hb dX9_land_29 rfl (lv_at hl 1 rfl) ?_
      refine lv_iload_n hx hb dX9_land_30 rfl (lv_at hl 2 rfl) ?_
      obtain ⟨μ4, hc3, h⟩ := dw_bdS h
      refine dw_cVv C0 Z dw_hA (dw_lt dw_kc2 (by decide)) (dw_cz1 dw_kc2) rfl (As := [.int a1, .int a2]) (rest := []) (kX1_renew l Γ hj μ a1 a2 hc3) (dw_gV tw_lX9_52 tw_vX1_renew tw_eX1_renew tw_iX1 tw_kX1_renew) dw_hX1_renew ⟨Nat.le_of_ble_eq_true rfl, Nat.le_of_ble_eq_true rfl⟩ ⟨Nat.zero_le _, Nat.zero_le _⟩ hl.1 (Nat.le_of_ble_eq_true rfl) rfl dX9_land_31 (fun H locs Z => ?_)
      refine lv_aload_n hx hb dX9_land_34 rfl (lv_at hl 0 rfl) ?_
      refine dw_g9_0 (t := 1) C0 Z dw_kc0 tw_fX9_12 rfl dX9_land_35 ?_
      refine dw_g6_1 (t := 10) C0 Z dw_kc1 tw_fX9_58 rfl dX9_land_38 ?_
      obtain ⟨μ5, eμ5⟩ := dw_eg (fX3_clear μ4 10)
      have h := dw_nmS eμ5 h
      refine dw_cVv C0 Z dw_hA (dw_lt dw_kc10 (by decide)) (dw_cz3 dw_kc10) rfl (As := []) (rest := []) (kX3_clear l Γ hj μ4 10 dw_kc10 eμ5.symm) (dw_gV tw_lX9_62 tw_vX3_clear tw_eX3_clear tw_iX3 tw_kX3_clear) dw_hX3_clear ⟨Nat.le_of_ble_eq_true rfl, Nat.le_of_ble_eq_true rfl⟩ ⟨Nat.zero_le _, Nat.zero_le _⟩ hl.1 (Nat.le_of_ble_eq_true rfl) rfl dX9_land_41 (fun H locs Z => ?_)
      refine lv_aload_n hx hb dX9_land_44 rfl (lv_at hl 0 rfl) ?_
      refine dw_g9_0 (t := 1) C0 Z dw_kc0 tw_fX9_12 rfl dX9_land_45 ?_
      refine dw_g6_2 (t := 11) C0 Z dw_kc1 tw_fX9_67 rfl dX9_land_48 ?_
      refine lv_iconst (v := (0 : Int32)) hx hb dX9_land_51 (by decide) ?_
      refine dw_p4_1 C0 Z dw_hA dw_kc11 tw_fX9_71 dX9_land_52 (fun μ6 eμ6 H locs Z => ?_)
      have h := dw_nmS eμ6 h
      refine lv_aload_n hx hb dX9_land_55 rfl (lv_at hl 0 rfl) ?_
      refine dw_g9_0 (t := 1) C0 Z dw_kc0 tw_fX9_12 rfl dX9_land_56 ?_
      refine dw_g6_3 (t := 53) C0 Z dw_kc1 tw_fX9_77 rfl dX9_land_59 ?_
      obtain ⟨μ8, hc7, h⟩ := dw_bdS h
      refine dw_cVv C0 Z dw_hA (dw_lt dw_kc53 (by decide)) (dw_cz8 dw_kc53) rfl (As := []) (rest := []) (kX8_clear l Γ hj μ6 hc7) (dw_gV tw_lX9_80 tw_vX8_clear tw_eX8_clear tw_iX8 tw_kX8_clear) dw_hX8_clear ⟨Nat.le_of_ble_eq_true rfl, Nat.le_of_ble_eq_true rfl⟩ ⟨Nat.zero_le _, Nat.zero_le _⟩ hl.1 (Nat.le_of_ble_eq_true rfl) rfl dX9_land_62 (fun H locs Z => ?_)
      refine lv_aload_n hx hb dX9_land_65 rfl (lv_at hl 0 rfl) ?_
      refine dw_g9_0 (t := 1) C0 Z dw_kc0 tw_fX9_12 rfl dX9_land_66 ?_
      refine dw_g6_4 (t := 61) C0 Z dw_kc1 tw_fX9_81 rfl dX9_land_69 ?_
      refine lv_iconst (v := (0 : Int32)) hx hb dX9_land_72 (by decide) ?_
      obtain ⟨μ10, hc9, h⟩ := dw_bdS h
      refine dw_cSv C0 Z dw_hA (As := [.ref (dw_ad Γ 61), .int (0 : Int32)]) (rest := []) (kX9_fill l Γ hj μ8 61 dw_kc61 (0 : Int32) hc9) (dw_gS tw_lX9_85 tw_sX9_fill tw_iX9 tw_kX9_fill) dw_hX9_fill ⟨Nat.le_of_ble_eq_true rfl, Nat.le_of_ble_eq_true rfl⟩ ⟨Nat.zero_le _, Nat.zero_le _⟩ hl.1 (Nat.le_of_ble_eq_true rfl) rfl dX9_land_73 (fun H locs Z => ?_)
      refine lv_aload_n hx hb dX9_land_76 rfl (lv_at hl 0 rfl) ?_
      refine dw_g9_0 (t := 1) C0 Z dw_kc0 tw_fX9_12 rfl dX9_land_77 ?_
      refine dw_g6_5 (t := 62) C0 Z dw_kc1 tw_fX9_89 rfl dX9_land_80 ?_
      obtain ⟨μ11, eμ11⟩ := dw_eg (fX2_clear μ10 62)
      have h := dw_nmS eμ11 h
      refine dw_cVv C0 Z dw_hA (dw_lt dw_kc62 (by decide)) (dw_cz2 dw_kc62) rfl (As := []) (rest := []) (kX2_clear l Γ hj μ10 62 dw_kc62 eμ11.symm) (dw_gV tw_lX9_93 tw_vX2_clear tw_eX2_clear tw_iX2 tw_kX2_clear) dw_hX2_clear ⟨Nat.le_of_ble_eq_true rfl, Nat.le_of_ble_eq_true rfl⟩ ⟨Nat.zero_le _, Nat.zero_le _⟩ hl.1 (Nat.le_of_ble_eq_true rfl) rfl dX9_land_83 (fun H locs Z => ?_)
      refine lv_aload_n hx hb dX9_land_86 rfl (lv_at hl 0 rfl) ?_
      refine dw_g9_0 (t := 1) C0 Z dw_kc0 tw_fX9_12 rfl dX9_land_87 ?_
      refine dw_g6_6 (t := 63) C0 Z dw_kc1 tw_fX9_96 rfl dX9_land_90 ?_
      obtain ⟨μ12, eμ12⟩ := dw_eg (fX2_clear μ11 63)
      have h := dw_nmS eμ12 h
      refine dw_cVv C0 Z dw_hA (dw_lt dw_kc63 (by decide)) (dw_cz2 dw_kc63) rfl (As := []) (rest := []) (kX2_clear l Γ hj μ11 63 dw_kc63 eμ12.symm) (dw_gV tw_lX9_93 tw_vX2_clear tw_eX2_clear tw_iX2 tw_kX2_clear) dw_hX2_clear ⟨Nat.le_of_ble_eq_true rfl, Nat.le_of_ble_eq_true rfl⟩ ⟨Nat.zero_le _, Nat.zero_le _⟩ hl.1 (Nat.le_of_ble_eq_true rfl) rfl dX9_land_93 (fun H locs Z => ?_)
      refine lv_aload_n hx hb dX9_land_96 rfl (lv_at hl 0 rfl) ?_
      refine dw_g9_0 (t := 1) C0 Z dw_kc0 tw_fX9_12 rfl dX9_land_97 ?_
      refine dw_g6_0 (t := 2) C0 Z dw_kc1 tw_fX9_48 rfl dX9_land_100 ?_
      refine dw_g1_1 C0 Z dw_kc2 tw_fX9_99 dX9_land_103 ?_
      obtain ⟨rfl, rfl⟩ := dw_s2 h
      exact dw_iret C0 Z hr hlk dX9_land_106
    · have h := dw_ifT c2 h
      refine lv_iconst (v := (-1 : Int32)) hx hb dX9_land_20 (by decide) ?_
      obtain ⟨rfl, rfl⟩ := dw_s2 h
      exact dw_iret C0 Z hr hlk dX9_land_21

def fX9_height (μ : dw_M) (a1 : Int32) (a2 : Int32) : Option (Int32 × dw_M) :=
  if (fX1_hasPlace μ a1) = 0 then (
  some ((-1 : Int32), μ))
  else (
  if (fX9_isWithin a2 (0 : Int32) (2000 : Int32)) = 0 then (
  some ((-1 : Int32), μ))
  else (
  dw_gd (dw_ok a1 36) (
  dw_nm (dw_st μ 3 a1.toNatClampNeg a2) (fun μ4 =>
  some ((1 : Int32), μ4)))))
set_option maxHeartbeats 4000000 in
set_option maxRecDepth 100000 in
theorem kX9_height (l : Launch) (Γ : dw_G) (hj : dw_inj Γ) (μ : dw_M) (a1 : Int32) (a2 : Int32) {r : Int32} {ν : dw_M} (h : fX9_height μ a1 a2 = some (r, ν)) : Met l yX9_height (dw_ws yX9_height cX9_height 3 (some .int)) (dw_rm 1 22) (dw_P Γ ([.ref (dw_ad Γ 0), .int a1, .int a2] : List Value) μ) (dw_Qi Γ r ν) 0 0 (dw_A Γ) := by
  refine dw_met (own := RX9) rfl rfl (Nat.le_of_ble_eq_true rfl) hj ?_
  intro p e s m below meth c C0 hr hlk Z ls hl
  have hx := C0.1
  have hb := C0.2.1
  have hl : lv_has ls 3 [(0, .ref (dw_ad Γ 0)), (1, .int a1), (2, .int a2)] := hl
  suffices key : ∀ (H : Heap) (locs : List Loc), dw_Z Γ (dw_A Γ) s.heap μ H locs → W p l e (dw_rm 1 22) s m ([.ref (dw_ad Γ 0), .int a1, .int a2] : List Value).toArray below meth c H locs 0 0 (MQ below (dw_Qi Γ r ν) ([.ref (dw_ad Γ 0), .int a1, .int a2] : List Value).toArray s 0 0 (dw_A Γ)) (F0 m 0 ls []) from key _ _ Z
  clear Z
  intro H locs Z
  unfold fX9_height at h
  refine lv_aload_n hx hb dX9_height_0 rfl (lv_at hl 0 rfl) ?_
  refine dw_g9_0 (t := 1) C0 Z dw_kc0 tw_fX9_12 rfl dX9_height_1 ?_
  refine dw_g6_0 (t := 2) C0 Z dw_kc1 tw_fX9_48 rfl dX9_height_4 ?_
  refine lv_iload_n hx hb dX9_height_7 rfl (lv_at hl 1 rfl) ?_
  refine dw_cVi C0 Z dw_hA (dw_lt dw_kc2 (by decide)) (dw_cz1 dw_kc2) rfl (As := [.int a1]) (rest := []) (kX1_hasPlace l Γ hj μ a1 rfl) (dw_gV tw_lX9_102 tw_vX1_hasPlace tw_eX1_hasPlace tw_iX1 tw_kX1_hasPlace) dw_hX1_hasPlace ⟨Nat.le_of_ble_eq_true rfl, Nat.le_of_ble_eq_true rfl⟩ ⟨Nat.zero_le _, Nat.zero_le _⟩ hl.1 (Nat.le_of_ble_eq_true rfl) rfl dX9_height_8 (fun H locs Z => ?_)
  refine lv_if_eq (tgt := 25) hx hb dX9_height_11 (by decide) (fun c1 => ?_) (fun c1 => ?_)
  · have h := dw_ifT c1 h
    refine lv_iconst (v := (-1 : Int32)) hx hb dX9_height_25 (by decide) ?_
    obtain ⟨rfl, rfl⟩ := dw_s2 h
    exact dw_iret C0 Z hr hlk dX9_height_26
  · have h := dw_ifF c1 h
    refine lv_iload_n hx hb dX9_height_14 rfl (lv_at hl 2 rfl) ?_
    refine lv_iconst (v := (0 : Int32)) hx hb dX9_height_15 (by decide) ?_
    refine lv_sipush (v := (2000 : Int32)) hx hb dX9_height_16 (by decide) ?_
    refine dw_cSi C0 Z dw_hA (As := [.int a2, .int (0 : Int32), .int (2000 : Int32)]) (rest := []) (kX9_isWithin l Γ hj μ a2 (0 : Int32) (2000 : Int32) rfl) (dw_gS tw_lX9_44 tw_sX9_isWithin tw_iX9 tw_kX9_isWithin) dw_hX9_isWithin ⟨Nat.le_of_ble_eq_true rfl, Nat.le_of_ble_eq_true rfl⟩ ⟨Nat.zero_le _, Nat.zero_le _⟩ hl.1 (Nat.le_of_ble_eq_true rfl) rfl dX9_height_19 (fun H locs Z => ?_)
    refine lv_if_ne (tgt := 27) hx hb dX9_height_22 (by decide) (fun c2 => ?_) (fun c2 => ?_)
    · have h := dw_ifF c2 h
      refine lv_aload_n hx hb dX9_height_27 rfl (lv_at hl 0 rfl) ?_
      refine dw_g9_0 (t := 1) C0 Z dw_kc0 tw_fX9_12 rfl dX9_height_28 ?_
      refine dw_g6_0 (t := 2) C0 Z dw_kc1 tw_fX9_48 rfl dX9_height_31 ?_
      refine dw_g1_2 (t := 3) C0 Z dw_kc2 tw_fX9_106 rfl dX9_height_34 ?_
      refine lv_iload_n hx hb dX9_height_37 rfl (lv_at hl 1 rfl) ?_
      refine lv_iload_n hx hb dX9_height_38 rfl (lv_at hl 2 rfl) ?_
      obtain ⟨g3, h⟩ := dw_gdS h
      refine dw_ast C0 Z dw_hA dw_kc3 dw_lc3 g3 dX9_height_39 (fun μ4 eμ4 H locs Z => ?_)
      have h := dw_nmS eμ4 h
      refine lv_iconst (v := (1 : Int32)) hx hb dX9_height_40 (by decide) ?_
      obtain ⟨rfl, rfl⟩ := dw_s2 h
      exact dw_iret C0 Z hr hlk dX9_height_41
    · have h := dw_ifT c2 h
      refine lv_iconst (v := (-1 : Int32)) hx hb dX9_height_25 (by decide) ?_
      obtain ⟨rfl, rfl⟩ := dw_s2 h
      exact dw_iret C0 Z hr hlk dX9_height_26

def fX9_isSoil (a1 : Int32) : Int32 :=
  if a1 < 0 then (
   (0 : Int32))
  else (
  if (4 : Int32) ≤ a1 then (
   (0 : Int32))
  else (
   (1 : Int32)))
set_option maxHeartbeats 4000000 in
set_option maxRecDepth 100000 in
theorem kX9_isSoil (l : Launch) (Γ : dw_G) (hj : dw_inj Γ) (μ : dw_M) (a1 : Int32) {r : Int32} (h : fX9_isSoil a1 = r) : Met l yX9_isSoil (dw_ws yX9_isSoil cX9_isSoil 1 (some .boolean)) (dw_rm 0 0) (dw_P Γ ([.int a1] : List Value) μ) (dw_Qi Γ r μ) 0 0 (dw_A Γ) := by
  refine dw_met (own := RX9) rfl rfl (Nat.le_of_ble_eq_true rfl) hj ?_
  intro p e s m below meth c C0 hr hlk Z ls hl
  have hx := C0.1
  have hb := C0.2.1
  have hl : lv_has ls 1 [(0, .int a1)] := hl
  suffices key : ∀ (H : Heap) (locs : List Loc), dw_Z Γ (dw_A Γ) s.heap μ H locs → W p l e (dw_rm 0 0) s m ([.int a1] : List Value).toArray below meth c H locs 0 0 (MQ below (dw_Qi Γ r μ) ([.int a1] : List Value).toArray s 0 0 (dw_A Γ)) (F0 m 0 ls []) from key _ _ Z
  clear Z
  intro H locs Z
  unfold fX9_isSoil at h
  refine lv_iload_n hx hb dX9_isSoil_0 rfl (lv_at hl 0 rfl) ?_
  refine lv_if_lt (tgt := 13) hx hb dX9_isSoil_1 (by decide) (fun c1 => ?_) (fun c1 => ?_)
  · have h := dw_ifT c1 h
    refine lv_iconst (v := (0 : Int32)) hx hb dX9_isSoil_13 (by decide) ?_
    obtain rfl := dw_t1 h
    exact dw_zret C0 Z hr hlk rfl dX9_isSoil_14
  · have h := dw_ifF c1 h
    refine lv_iload_n hx hb dX9_isSoil_4 rfl (lv_at hl 0 rfl) ?_
    refine lv_iconst (v := (4 : Int32)) hx hb dX9_isSoil_5 (by decide) ?_
    refine lv_icmp_ge (tgt := 13) hx hb dX9_isSoil_6 (by decide) (fun c2 => ?_) (fun c2 => ?_)
    · have h := dw_ifT c2 h
      refine lv_iconst (v := (0 : Int32)) hx hb dX9_isSoil_13 (by decide) ?_
      obtain rfl := dw_t1 h
      exact dw_zret C0 Z hr hlk rfl dX9_isSoil_14
    · have h := dw_ifF c2 h
      refine lv_iconst (v := (1 : Int32)) hx hb dX9_isSoil_9 (by decide) ?_
      refine lv_goto (tgt := 14) hx hb dX9_isSoil_10 (by decide) ?_
      obtain rfl := dw_t1 h
      exact dw_zret C0 Z hr hlk rfl dX9_isSoil_14
theorem zX9_isSoil (a1 : Int32) : narrow .boolean (.int (fX9_isSoil a1)) = .int (fX9_isSoil a1) := by
  unfold fX9_isSoil
  repeat' split
  all_goals first | rfl

def fX9_soil (μ : dw_M) (a1 : Int32) (a2 : Int32) : Option (Int32 × dw_M) :=
  if (fX1_hasPlace μ a1) = 0 then (
  some ((-1 : Int32), μ))
  else (
  if (fX9_isSoil a2) = 0 then (
  some ((-1 : Int32), μ))
  else (
  dw_gd (dw_ok a1 36) (
  dw_nm (dw_st μ 4 a1.toNatClampNeg a2) (fun μ4 =>
  some ((1 : Int32), μ4)))))
set_option maxHeartbeats 4000000 in
set_option maxRecDepth 100000 in
theorem kX9_soil (l : Launch) (Γ : dw_G) (hj : dw_inj Γ) (μ : dw_M) (a1 : Int32) (a2 : Int32) {r : Int32} {ν : dw_M} (h : fX9_soil μ a1 a2 = some (r, ν)) : Met l yX9_soil (dw_ws yX9_soil cX9_soil 3 (some .int)) (dw_rm 1 21) (dw_P Γ ([.ref (dw_ad Γ 0), .int a1, .int a2] : List Value) μ) (dw_Qi Γ r ν) 0 0 (dw_A Γ) := by
  refine dw_met (own := RX9) rfl rfl (Nat.le_of_ble_eq_true rfl) hj ?_
  intro p e s m below meth c C0 hr hlk Z ls hl
  have hx := C0.1
  have hb := C0.2.1
  have hl : lv_has ls 3 [(0, .ref (dw_ad Γ 0)), (1, .int a1), (2, .int a2)] := hl
  suffices key : ∀ (H : Heap) (locs : List Loc), dw_Z Γ (dw_A Γ) s.heap μ H locs → W p l e (dw_rm 1 21) s m ([.ref (dw_ad Γ 0), .int a1, .int a2] : List Value).toArray below meth c H locs 0 0 (MQ below (dw_Qi Γ r ν) ([.ref (dw_ad Γ 0), .int a1, .int a2] : List Value).toArray s 0 0 (dw_A Γ)) (F0 m 0 ls []) from key _ _ Z
  clear Z
  intro H locs Z
  unfold fX9_soil at h
  refine lv_aload_n hx hb dX9_soil_0 rfl (lv_at hl 0 rfl) ?_
  refine dw_g9_0 (t := 1) C0 Z dw_kc0 tw_fX9_12 rfl dX9_soil_1 ?_
  refine dw_g6_0 (t := 2) C0 Z dw_kc1 tw_fX9_48 rfl dX9_soil_4 ?_
  refine lv_iload_n hx hb dX9_soil_7 rfl (lv_at hl 1 rfl) ?_
  refine dw_cVi C0 Z dw_hA (dw_lt dw_kc2 (by decide)) (dw_cz1 dw_kc2) rfl (As := [.int a1]) (rest := []) (kX1_hasPlace l Γ hj μ a1 rfl) (dw_gV tw_lX9_102 tw_vX1_hasPlace tw_eX1_hasPlace tw_iX1 tw_kX1_hasPlace) dw_hX1_hasPlace ⟨Nat.le_of_ble_eq_true rfl, Nat.le_of_ble_eq_true rfl⟩ ⟨Nat.zero_le _, Nat.zero_le _⟩ hl.1 (Nat.le_of_ble_eq_true rfl) rfl dX9_soil_8 (fun H locs Z => ?_)
  refine lv_if_eq (tgt := 21) hx hb dX9_soil_11 (by decide) (fun c1 => ?_) (fun c1 => ?_)
  · have h := dw_ifT c1 h
    refine lv_iconst (v := (-1 : Int32)) hx hb dX9_soil_21 (by decide) ?_
    obtain ⟨rfl, rfl⟩ := dw_s2 h
    exact dw_iret C0 Z hr hlk dX9_soil_22
  · have h := dw_ifF c1 h
    refine lv_iload_n hx hb dX9_soil_14 rfl (lv_at hl 2 rfl) ?_
    refine dw_cSi C0 Z dw_hA (As := [.int a2]) (rest := []) (kX9_isSoil l Γ hj μ a2 rfl) (dw_gS tw_lX9_109 tw_sX9_isSoil tw_iX9 tw_kX9_isSoil) dw_hX9_isSoil ⟨Nat.le_of_ble_eq_true rfl, Nat.le_of_ble_eq_true rfl⟩ ⟨Nat.zero_le _, Nat.zero_le _⟩ hl.1 (Nat.le_of_ble_eq_true rfl) rfl dX9_soil_15 (fun H locs Z => ?_)
    refine lv_if_ne (tgt := 23) hx hb dX9_soil_18 (by decide) (fun c2 => ?_) (fun c2 => ?_)
    · have h := dw_ifF c2 h
      refine lv_aload_n hx hb dX9_soil_23 rfl (lv_at hl 0 rfl) ?_
      refine dw_g9_0 (t := 1) C0 Z dw_kc0 tw_fX9_12 rfl dX9_soil_24 ?_
      refine dw_g6_0 (t := 2) C0 Z dw_kc1 tw_fX9_48 rfl dX9_soil_27 ?_
      refine dw_g1_3 (t := 4) C0 Z dw_kc2 tw_fX9_112 rfl dX9_soil_30 ?_
      refine lv_iload_n hx hb dX9_soil_33 rfl (lv_at hl 1 rfl) ?_
      refine lv_iload_n hx hb dX9_soil_34 rfl (lv_at hl 2 rfl) ?_
      obtain ⟨g3, h⟩ := dw_gdS h
      refine dw_ast C0 Z dw_hA dw_kc4 dw_lc4 g3 dX9_soil_35 (fun μ4 eμ4 H locs Z => ?_)
      have h := dw_nmS eμ4 h
      refine lv_iconst (v := (1 : Int32)) hx hb dX9_soil_36 (by decide) ?_
      obtain ⟨rfl, rfl⟩ := dw_s2 h
      exact dw_iret C0 Z hr hlk dX9_soil_37
    · have h := dw_ifT c2 h
      refine lv_iconst (v := (-1 : Int32)) hx hb dX9_soil_21 (by decide) ?_
      obtain ⟨rfl, rfl⟩ := dw_s2 h
      exact dw_iret C0 Z hr hlk dX9_soil_22

def fX9_soils (μ : dw_M) (a1 : Int32) (a2 : Int32) (a3 : Int32) (a4 : Int32) (a5 : Int32) : Option (Int32 × dw_M) :=
  if (fX9_isSoil a1) = 0 then (
  some ((-1 : Int32), μ))
  else (
  if (fX9_isWithin a2 (0 : Int32) (200 : Int32)) = 0 then (
  some ((-1 : Int32), μ))
  else (
  if (fX9_isWithin a3 (0 : Int32) (100 : Int32)) = 0 then (
  some ((-1 : Int32), μ))
  else (
  if (fX9_isWithin a4 (0 : Int32) (1000 : Int32)) = 0 then (
  some ((-1 : Int32), μ))
  else (
  if (fX9_isWithin a5 (0 : Int32) (40 : Int32)) = 0 then (
  some ((-1 : Int32), μ))
  else (
  dw_gd (dw_ok a1 4) (
  dw_nm (dw_st μ 5 a1.toNatClampNeg a2) (fun μ7 =>
  dw_nm (dw_st μ7 6 a1.toNatClampNeg a3) (fun μ8 =>
  dw_nm (dw_st μ8 7 a1.toNatClampNeg a4) (fun μ9 =>
  dw_nm (dw_st μ9 8 a1.toNatClampNeg a5) (fun μ10 =>
  some ((1 : Int32), μ10)))))))))))
set_option maxHeartbeats 4000000 in
set_option maxRecDepth 100000 in
theorem kX9_soils (l : Launch) (Γ : dw_G) (hj : dw_inj Γ) (μ : dw_M) (a1 : Int32) (a2 : Int32) (a3 : Int32) (a4 : Int32) (a5 : Int32) {r : Int32} {ν : dw_M} (h : fX9_soils μ a1 a2 a3 a4 a5 = some (r, ν)) : Met l yX9_soils (dw_ws yX9_soils cX9_soils 6 (some .int)) (dw_rm 1 22) (dw_P Γ ([.ref (dw_ad Γ 0), .int a1, .int a2, .int a3, .int a4, .int a5] : List Value) μ) (dw_Qi Γ r ν) 0 0 (dw_A Γ) := by
  refine dw_met (own := RX9) rfl rfl (Nat.le_of_ble_eq_true rfl) hj ?_
  intro p e s m below meth c C0 hr hlk Z ls hl
  have hx := C0.1
  have hb := C0.2.1
  have hl : lv_has ls 6 [(0, .ref (dw_ad Γ 0)), (1, .int a1), (2, .int a2), (3, .int a3), (4, .int a4), (5, .int a5)] := hl
  suffices key : ∀ (H : Heap) (locs : List Loc), dw_Z Γ (dw_A Γ) s.heap μ H locs → W p l e (dw_rm 1 22) s m ([.ref (dw_ad Γ 0), .int a1, .int a2, .int a3, .int a4, .int a5] : List Value).toArray below meth c H locs 0 0 (MQ below (dw_Qi Γ r ν) ([.ref (dw_ad Γ 0), .int a1, .int a2, .int a3, .int a4, .int a5] : List Value).toArray s 0 0 (dw_A Γ)) (F0 m 0 ls []) from key _ _ Z
  clear Z
  intro H locs Z
  unfold fX9_soils at h
  refine lv_iload_n hx hb dX9_soils_0 rfl (lv_at hl 1 rfl) ?_
  refine dw_cSi C0 Z dw_hA (As := [.int a1]) (rest := []) (kX9_isSoil l Γ hj μ a1 rfl) (dw_gS tw_lX9_109 tw_sX9_isSoil tw_iX9 tw_kX9_isSoil) dw_hX9_isSoil ⟨Nat.le_of_ble_eq_true rfl, Nat.le_of_ble_eq_true rfl⟩ ⟨Nat.zero_le _, Nat.zero_le _⟩ hl.1 (Nat.le_of_ble_eq_true rfl) rfl dX9_soils_1 (fun H locs Z => ?_)
  refine lv_if_eq (tgt := 51) hx hb dX9_soils_4 (by decide) (fun c1 => ?_) (fun c1 => ?_)
  · have h := dw_ifT c1 h
    refine lv_iconst (v := (-1 : Int32)) hx hb dX9_soils_51 (by decide) ?_
    obtain ⟨rfl, rfl⟩ := dw_s2 h
    exact dw_iret C0 Z hr hlk dX9_soils_52
  · have h := dw_ifF c1 h
    refine lv_iload_n hx hb dX9_soils_7 rfl (lv_at hl 2 rfl) ?_
    refine lv_iconst (v := (0 : Int32)) hx hb dX9_soils_8 (by decide) ?_
    refine lv_sipush (v := (200 : Int32)) hx hb dX9_soils_9 (by decide) ?_
    refine dw_cSi C0 Z dw_hA (As := [.int a2, .int (0 : Int32), .int (200 : Int32)]) (rest := []) (kX9_isWithin l Γ hj μ a2 (0 : Int32) (200 : Int32) rfl) (dw_gS tw_lX9_44 tw_sX9_isWithin tw_iX9 tw_kX9_isWithin) dw_hX9_isWithin ⟨Nat.le_of_ble_eq_true rfl, Nat.le_of_ble_eq_true rfl⟩ ⟨Nat.zero_le _, Nat.zero_le _⟩ hl.1 (Nat.le_of_ble_eq_true rfl) rfl dX9_soils_12 (fun H locs Z => ?_)
    refine lv_if_eq (tgt := 51) hx hb dX9_soils_15 (by decide) (fun c2 => ?_) (fun c2 => ?_)
    · have h := dw_ifT c2 h
      refine lv_iconst (v := (-1 : Int32)) hx hb dX9_soils_51 (by decide) ?_
      obtain ⟨rfl, rfl⟩ := dw_s2 h
      exact dw_iret C0 Z hr hlk dX9_soils_52
    · have h := dw_ifF c2 h
      refine lv_iload_n hx hb dX9_soils_18 rfl (lv_at hl 3 rfl) ?_
      refine lv_iconst (v := (0 : Int32)) hx hb dX9_soils_19 (by decide) ?_
      refine lv_bipush (v := (100 : Int32)) hx hb dX9_soils_20 (by decide) ?_
      refine dw_cSi C0 Z dw_hA (As := [.int a3, .int (0 : Int32), .int (100 : Int32)]) (rest := []) (kX9_isWithin l Γ hj μ a3 (0 : Int32) (100 : Int32) rfl) (dw_gS tw_lX9_44 tw_sX9_isWithin tw_iX9 tw_kX9_isWithin) dw_hX9_isWithin ⟨Nat.le_of_ble_eq_true rfl, Nat.le_of_ble_eq_true rfl⟩ ⟨Nat.zero_le _, Nat.zero_le _⟩ hl.1 (Nat.le_of_ble_eq_true rfl) rfl dX9_soils_22 (fun H locs Z => ?_)
      refine lv_if_eq (tgt := 51) hx hb dX9_soils_25 (by decide) (fun c3 => ?_) (fun c3 => ?_)
      · have h := dw_ifT c3 h
        refine lv_iconst (v := (-1 : Int32)) hx hb dX9_soils_51 (by decide) ?_
        obtain ⟨rfl, rfl⟩ := dw_s2 h
        exact dw_iret C0 Z hr hlk dX9_soils_52
      · have h := dw_ifF c3 h
        refine lv_iload hx hb dX9_soils_28 (lv_at hl 4 rfl) ?_
        refine lv_iconst (v := (0 : Int32)) hx hb dX9_soils_30 (by decide) ?_
        refine lv_sipush (v := (1000 : Int32)) hx hb dX9_soils_31 (by decide) ?_
        refine dw_cSi C0 Z dw_hA (As := [.int a4, .int (0 : Int32), .int (1000 : Int32)]) (rest := []) (kX9_isWithin l Γ hj μ a4 (0 : Int32) (1000 : Int32) rfl) (dw_gS tw_lX9_44 tw_sX9_isWithin tw_iX9 tw_kX9_isWithin) dw_hX9_isWithin ⟨Nat.le_of_ble_eq_true rfl, Nat.le_of_ble_eq_true rfl⟩ ⟨Nat.zero_le _, Nat.zero_le _⟩ hl.1 (Nat.le_of_ble_eq_true rfl) rfl dX9_soils_34 (fun H locs Z => ?_)
        refine lv_if_eq (tgt := 51) hx hb dX9_soils_37 (by decide) (fun c4 => ?_) (fun c4 => ?_)
        · have h := dw_ifT c4 h
          refine lv_iconst (v := (-1 : Int32)) hx hb dX9_soils_51 (by decide) ?_
          obtain ⟨rfl, rfl⟩ := dw_s2 h
          exact dw_iret C0 Z hr hlk dX9_soils_52
        · have h := dw_ifF c4 h
          refine lv_iload hx hb dX9_soils_40 (lv_at hl 5 rfl) ?_
          refine lv_iconst (v := (0 : Int32)) hx hb dX9_soils_42 (by decide) ?_
          refine lv_bipush (v := (40 : Int32)) hx hb dX9_soils_43 (by decide) ?_
          refine dw_cSi C0 Z dw_hA (As := [.int a5, .int (0 : Int32), .int (40 : Int32)]) (rest := []) (kX9_isWithin l Γ hj μ a5 (0 : Int32) (40 : Int32) rfl) (dw_gS tw_lX9_44 tw_sX9_isWithin tw_iX9 tw_kX9_isWithin) dw_hX9_isWithin ⟨Nat.le_of_ble_eq_true rfl, Nat.le_of_ble_eq_true rfl⟩ ⟨Nat.zero_le _, Nat.zero_le _⟩ hl.1 (Nat.le_of_ble_eq_true rfl) rfl dX9_soils_45 (fun H locs Z => ?_)
          refine lv_if_ne (tgt := 53) hx hb dX9_soils_48 (by decide) (fun c5 => ?_) (fun c5 => ?_)
          · have h := dw_ifF c5 h
            refine lv_aload_n hx hb dX9_soils_53 rfl (lv_at hl 0 rfl) ?_
            refine dw_g9_0 (t := 1) C0 Z dw_kc0 tw_fX9_12 rfl dX9_soils_54 ?_
            refine dw_g6_0 (t := 2) C0 Z dw_kc1 tw_fX9_48 rfl dX9_soils_57 ?_
            refine dw_g1_4 (t := 5) C0 Z dw_kc2 tw_fX9_115 rfl dX9_soils_60 ?_
            refine lv_iload_n hx hb dX9_soils_63 rfl (lv_at hl 1 rfl) ?_
            refine lv_iload_n hx hb dX9_soils_64 rfl (lv_at hl 2 rfl) ?_
            obtain ⟨g6, h⟩ := dw_gdS h
            refine dw_ast C0 Z dw_hA dw_kc5 dw_lc5 g6 dX9_soils_65 (fun μ7 eμ7 H locs Z => ?_)
            have h := dw_nmS eμ7 h
            refine lv_aload_n hx hb dX9_soils_66 rfl (lv_at hl 0 rfl) ?_
            refine dw_g9_0 (t := 1) C0 Z dw_kc0 tw_fX9_12 rfl dX9_soils_67 ?_
            refine dw_g6_0 (t := 2) C0 Z dw_kc1 tw_fX9_48 rfl dX9_soils_70 ?_
            refine dw_g1_5 (t := 6) C0 Z dw_kc2 tw_fX9_118 rfl dX9_soils_73 ?_
            refine lv_iload_n hx hb dX9_soils_76 rfl (lv_at hl 1 rfl) ?_
            refine lv_iload_n hx hb dX9_soils_77 rfl (lv_at hl 3 rfl) ?_
            refine dw_ast C0 Z dw_hA dw_kc6 dw_lc6 g6 dX9_soils_78 (fun μ8 eμ8 H locs Z => ?_)
            have h := dw_nmS eμ8 h
            refine lv_aload_n hx hb dX9_soils_79 rfl (lv_at hl 0 rfl) ?_
            refine dw_g9_0 (t := 1) C0 Z dw_kc0 tw_fX9_12 rfl dX9_soils_80 ?_
            refine dw_g6_0 (t := 2) C0 Z dw_kc1 tw_fX9_48 rfl dX9_soils_83 ?_
            refine dw_g1_6 (t := 7) C0 Z dw_kc2 tw_fX9_121 rfl dX9_soils_86 ?_
            refine lv_iload_n hx hb dX9_soils_89 rfl (lv_at hl 1 rfl) ?_
            refine lv_iload hx hb dX9_soils_90 (lv_at hl 4 rfl) ?_
            refine dw_ast C0 Z dw_hA dw_kc7 dw_lc7 g6 dX9_soils_92 (fun μ9 eμ9 H locs Z => ?_)
            have h := dw_nmS eμ9 h
            refine lv_aload_n hx hb dX9_soils_93 rfl (lv_at hl 0 rfl) ?_
            refine dw_g9_0 (t := 1) C0 Z dw_kc0 tw_fX9_12 rfl dX9_soils_94 ?_
            refine dw_g6_0 (t := 2) C0 Z dw_kc1 tw_fX9_48 rfl dX9_soils_97 ?_
            refine dw_g1_7 (t := 8) C0 Z dw_kc2 tw_fX9_124 rfl dX9_soils_100 ?_
            refine lv_iload_n hx hb dX9_soils_103 rfl (lv_at hl 1 rfl) ?_
            refine lv_iload hx hb dX9_soils_104 (lv_at hl 5 rfl) ?_
            refine dw_ast C0 Z dw_hA dw_kc8 dw_lc8 g6 dX9_soils_106 (fun μ10 eμ10 H locs Z => ?_)
            have h := dw_nmS eμ10 h
            refine lv_iconst (v := (1 : Int32)) hx hb dX9_soils_107 (by decide) ?_
            obtain ⟨rfl, rfl⟩ := dw_s2 h
            exact dw_iret C0 Z hr hlk dX9_soils_108
          · have h := dw_ifT c5 h
            refine lv_iconst (v := (-1 : Int32)) hx hb dX9_soils_51 (by decide) ?_
            obtain ⟨rfl, rfl⟩ := dw_s2 h
            exact dw_iret C0 Z hr hlk dX9_soils_52

def fX9_ditch (μ : dw_M) (a1 : Int32) (a2 : Int32) : Option (Int32 × dw_M) :=
  if (fX9_isDitch a1) = 0 then (
  some ((-1 : Int32), μ))
  else (
  if (fX9_isWithin a2 (0 : Int32) (2000 : Int32)) = 0 then (
  some ((-1 : Int32), μ))
  else (
  dw_gd (dw_ok a1 4) (
  dw_nm (dw_st μ 9 a1.toNatClampNeg a2) (fun μ4 =>
  some ((1 : Int32), μ4)))))
set_option maxHeartbeats 4000000 in
set_option maxRecDepth 100000 in
theorem kX9_ditch (l : Launch) (Γ : dw_G) (hj : dw_inj Γ) (μ : dw_M) (a1 : Int32) (a2 : Int32) {r : Int32} {ν : dw_M} (h : fX9_ditch μ a1 a2 = some (r, ν)) : Met l yX9_ditch (dw_ws yX9_ditch cX9_ditch 3 (some .int)) (dw_rm 1 22) (dw_P Γ ([.ref (dw_ad Γ 0), .int a1, .int a2] : List Value) μ) (dw_Qi Γ r ν) 0 0 (dw_A Γ) := by
  refine dw_met (own := RX9) rfl rfl (Nat.le_of_ble_eq_true rfl) hj ?_
  intro p e s m below meth c C0 hr hlk Z ls hl
  have hx := C0.1
  have hb := C0.2.1
  have hl : lv_has ls 3 [(0, .ref (dw_ad Γ 0)), (1, .int a1), (2, .int a2)] := hl
  suffices key : ∀ (H : Heap) (locs : List Loc), dw_Z Γ (dw_A Γ) s.heap μ H locs → W p l e (dw_rm 1 22) s m ([.ref (dw_ad Γ 0), .int a1, .int a2] : List Value).toArray below meth c H locs 0 0 (MQ below (dw_Qi Γ r ν) ([.ref (dw_ad Γ 0), .int a1, .int a2] : List Value).toArray s 0 0 (dw_A Γ)) (F0 m 0 ls []) from key _ _ Z
  clear Z
  intro H locs Z
  unfold fX9_ditch at h
  refine lv_iload_n hx hb dX9_ditch_0 rfl (lv_at hl 1 rfl) ?_
  refine dw_cSi C0 Z dw_hA (As := [.int a1]) (rest := []) (kX9_isDitch l Γ hj μ a1 rfl) (dw_gS tw_lX9_127 tw_sX9_isDitch tw_iX9 tw_kX9_isDitch) dw_hX9_isDitch ⟨Nat.le_of_ble_eq_true rfl, Nat.le_of_ble_eq_true rfl⟩ ⟨Nat.zero_le _, Nat.zero_le _⟩ hl.1 (Nat.le_of_ble_eq_true rfl) rfl dX9_ditch_1 (fun H locs Z => ?_)
  refine lv_if_eq (tgt := 18) hx hb dX9_ditch_4 (by decide) (fun c1 => ?_) (fun c1 => ?_)
  · have h := dw_ifT c1 h
    refine lv_iconst (v := (-1 : Int32)) hx hb dX9_ditch_18 (by decide) ?_
    obtain ⟨rfl, rfl⟩ := dw_s2 h
    exact dw_iret C0 Z hr hlk dX9_ditch_19
  · have h := dw_ifF c1 h
    refine lv_iload_n hx hb dX9_ditch_7 rfl (lv_at hl 2 rfl) ?_
    refine lv_iconst (v := (0 : Int32)) hx hb dX9_ditch_8 (by decide) ?_
    refine lv_sipush (v := (2000 : Int32)) hx hb dX9_ditch_9 (by decide) ?_
    refine dw_cSi C0 Z dw_hA (As := [.int a2, .int (0 : Int32), .int (2000 : Int32)]) (rest := []) (kX9_isWithin l Γ hj μ a2 (0 : Int32) (2000 : Int32) rfl) (dw_gS tw_lX9_44 tw_sX9_isWithin tw_iX9 tw_kX9_isWithin) dw_hX9_isWithin ⟨Nat.le_of_ble_eq_true rfl, Nat.le_of_ble_eq_true rfl⟩ ⟨Nat.zero_le _, Nat.zero_le _⟩ hl.1 (Nat.le_of_ble_eq_true rfl) rfl dX9_ditch_12 (fun H locs Z => ?_)
    refine lv_if_ne (tgt := 20) hx hb dX9_ditch_15 (by decide) (fun c2 => ?_) (fun c2 => ?_)
    · have h := dw_ifF c2 h
      refine lv_aload_n hx hb dX9_ditch_20 rfl (lv_at hl 0 rfl) ?_
      refine dw_g9_0 (t := 1) C0 Z dw_kc0 tw_fX9_12 rfl dX9_ditch_21 ?_
      refine dw_g6_0 (t := 2) C0 Z dw_kc1 tw_fX9_48 rfl dX9_ditch_24 ?_
      refine dw_g1_8 (t := 9) C0 Z dw_kc2 tw_fX9_130 rfl dX9_ditch_27 ?_
      refine lv_iload_n hx hb dX9_ditch_30 rfl (lv_at hl 1 rfl) ?_
      refine lv_iload_n hx hb dX9_ditch_31 rfl (lv_at hl 2 rfl) ?_
      obtain ⟨g3, h⟩ := dw_gdS h
      refine dw_ast C0 Z dw_hA dw_kc9 dw_lc9 g3 dX9_ditch_32 (fun μ4 eμ4 H locs Z => ?_)
      have h := dw_nmS eμ4 h
      refine lv_iconst (v := (1 : Int32)) hx hb dX9_ditch_33 (by decide) ?_
      obtain ⟨rfl, rfl⟩ := dw_s2 h
      exact dw_iret C0 Z hr hlk dX9_ditch_34
    · have h := dw_ifT c2 h
      refine lv_iconst (v := (-1 : Int32)) hx hb dX9_ditch_18 (by decide) ?_
      obtain ⟨rfl, rfl⟩ := dw_s2 h
      exact dw_iret C0 Z hr hlk dX9_ditch_19

def fX9_trench (μ : dw_M) (a1 : Int32) (a2 : Int32) (a3 : Int32) (a4 : Int32) : Option (Int32 × dw_M) :=
  if (fX1_hasPlace μ a1) = 0 then (
  some ((-1 : Int32), μ))
  else (
  if (fX1_hasPlace μ a2) = 0 then (
  some ((-1 : Int32), μ))
  else (
  if a1 = a2 then (
  some ((-1 : Int32), μ))
  else (
  dw_bd (fX1_areInLine μ a1 a2) (fun r5 =>
  if r5 = 0 then (
  some ((-1 : Int32), μ))
  else (
  if (fX9_isWithin a3 (0 : Int32) (2000 : Int32)) = 0 then (
  some ((-1 : Int32), μ))
  else (
  if (fX9_isWithin a4 (1 : Int32) (50 : Int32)) = 0 then (
  some ((-1 : Int32), μ))
  else (
  dw_bd (fX1_rowsApart μ a1 a2) (fun r10 =>
  dw_bd (fX1_columnsApart μ a1 a2) (fun r12 =>
  dw_nm (((1 : Int32) + r10) + r12) (fun x13 =>
  dw_bd (fX1_rowsApart μ a1 a2) (fun r15 =>
  dw_jm (fun (x16 : Int32) =>
  if a2 ≤ a1 then (
  dw_nm (fX3_set μ 10 a1 (-x16) x13 a3 a4) (fun μ18 =>
  some (x13, μ18)))
  else (
  dw_nm (fX3_set μ 10 a1 x16 x13 a3 a4) (fun μ19 =>
  some (x13, μ19)))) (fun k104 =>
  if r15 = 0 then (
  k104 (1 : Int32))
  else (
  k104 (μ.1 2 0))))))))))))))
set_option maxHeartbeats 4000000 in
set_option maxRecDepth 100000 in
theorem kX9_trench (l : Launch) (Γ : dw_G) (hj : dw_inj Γ) (μ : dw_M) (a1 : Int32) (a2 : Int32) (a3 : Int32) (a4 : Int32) {r : Int32} {ν : dw_M} (h : fX9_trench μ a1 a2 a3 a4 = some (r, ν)) : Met l yX9_trench (dw_ws yX9_trench cX9_trench 8 (some .int)) (dw_rm 3 68) (dw_P Γ ([.ref (dw_ad Γ 0), .int a1, .int a2, .int a3, .int a4] : List Value) μ) (dw_Qi Γ r ν) 0 0 (dw_A Γ) := by
  refine dw_met (own := RX9) rfl rfl (Nat.le_of_ble_eq_true rfl) hj ?_
  intro p e s m below meth c C0 hr hlk Z ls hl
  have hx := C0.1
  have hb := C0.2.1
  have hl : lv_has ls 8 [(0, .ref (dw_ad Γ 0)), (1, .int a1), (2, .int a2), (3, .int a3), (4, .int a4)] := hl
  suffices key : ∀ (H : Heap) (locs : List Loc), dw_Z Γ (dw_A Γ) s.heap μ H locs → W p l e (dw_rm 3 68) s m ([.ref (dw_ad Γ 0), .int a1, .int a2, .int a3, .int a4] : List Value).toArray below meth c H locs 0 0 (MQ below (dw_Qi Γ r ν) ([.ref (dw_ad Γ 0), .int a1, .int a2, .int a3, .int a4] : List Value).toArray s 0 0 (dw_A Γ)) (F0 m 0 ls []) from key _ _ Z
  clear Z
  intro H locs Z
  unfold fX9_trench at h
  refine lv_aload_n hx hb dX9_trench_0 rfl (lv_at hl 0 rfl) ?_
  refine dw_g9_0 (t := 1) C0 Z dw_kc0 tw_fX9_12 rfl dX9_trench_1 ?_
  refine dw_g6_0 (t := 2) C0 Z dw_kc1 tw_fX9_48 rfl dX9_trench_4 ?_
  refine lv_astore (lv' := [(5, .ref (dw_ad Γ 2)), (0, .ref (dw_ad Γ 0)), (1, .int a1), (2, .int a2), (3, .int a3), (4, .int a4)]) hx hb dX9_trench_7 hl (by decide) rfl (fun ls hl => ?_)
  refine lv_aload hx hb dX9_trench_9 (lv_at hl 0 rfl) ?_
  refine lv_iload_n hx hb dX9_trench_11 rfl (lv_at hl 2 rfl) ?_
  refine dw_cVi C0 Z dw_hA (dw_lt dw_kc2 (by decide)) (dw_cz1 dw_kc2) rfl (As := [.int a1]) (rest := []) (kX1_hasPlace l Γ hj μ a1 rfl) (dw_gV tw_lX9_102 tw_vX1_hasPlace tw_eX1_hasPlace tw_iX1 tw_kX1_hasPlace) dw_hX1_hasPlace ⟨Nat.le_of_ble_eq_true rfl, Nat.le_of_ble_eq_true rfl⟩ ⟨Nat.zero_le _, Nat.zero_le _⟩ hl.1 (Nat.le_of_ble_eq_true rfl) rfl dX9_trench_12 (fun H locs Z => ?_)
  refine lv_if_eq (tgt := 64) hx hb dX9_trench_15 (by decide) (fun c1 => ?_) (fun c1 => ?_)
  · have h := dw_ifT c1 h
    refine lv_iconst (v := (-1 : Int32)) hx hb dX9_trench_64 (by decide) ?_
    obtain ⟨rfl, rfl⟩ := dw_s2 h
    exact dw_iret C0 Z hr hlk dX9_trench_65
  · have h := dw_ifF c1 h
    refine lv_aload hx hb dX9_trench_18 (lv_at hl 0 rfl) ?_
    refine lv_iload_n hx hb dX9_trench_20 rfl (lv_at hl 3 rfl) ?_
    refine dw_cVi C0 Z dw_hA (dw_lt dw_kc2 (by decide)) (dw_cz1 dw_kc2) rfl (As := [.int a2]) (rest := []) (kX1_hasPlace l Γ hj μ a2 rfl) (dw_gV tw_lX9_102 tw_vX1_hasPlace tw_eX1_hasPlace tw_iX1 tw_kX1_hasPlace) dw_hX1_hasPlace ⟨Nat.le_of_ble_eq_true rfl, Nat.le_of_ble_eq_true rfl⟩ ⟨Nat.zero_le _, Nat.zero_le _⟩ hl.1 (Nat.le_of_ble_eq_true rfl) rfl dX9_trench_21 (fun H locs Z => ?_)
    refine lv_if_eq (tgt := 64) hx hb dX9_trench_24 (by decide) (fun c2 => ?_) (fun c2 => ?_)
    · have h := dw_ifT c2 h
      refine lv_iconst (v := (-1 : Int32)) hx hb dX9_trench_64 (by decide) ?_
      obtain ⟨rfl, rfl⟩ := dw_s2 h
      exact dw_iret C0 Z hr hlk dX9_trench_65
    · have h := dw_ifF c2 h
      refine lv_iload_n hx hb dX9_trench_27 rfl (lv_at hl 2 rfl) ?_
      refine lv_iload_n hx hb dX9_trench_28 rfl (lv_at hl 3 rfl) ?_
      refine lv_icmp_eq (tgt := 64) hx hb dX9_trench_29 (by decide) (fun c3 => ?_) (fun c3 => ?_)
      · have h := dw_ifT c3 h
        refine lv_iconst (v := (-1 : Int32)) hx hb dX9_trench_64 (by decide) ?_
        obtain ⟨rfl, rfl⟩ := dw_s2 h
        exact dw_iret C0 Z hr hlk dX9_trench_65
      · have h := dw_ifF c3 h
        refine lv_aload hx hb dX9_trench_32 (lv_at hl 0 rfl) ?_
        refine lv_iload_n hx hb dX9_trench_34 rfl (lv_at hl 2 rfl) ?_
        refine lv_iload_n hx hb dX9_trench_35 rfl (lv_at hl 3 rfl) ?_
        obtain ⟨r5, hc4, h⟩ := dw_bdS h
        refine dw_cVi C0 Z dw_hA (dw_lt dw_kc2 (by decide)) (dw_cz1 dw_kc2) rfl (As := [.int a1, .int a2]) (rest := []) (kX1_areInLine l Γ hj μ a1 a2 hc4) (dw_gV tw_lX9_133 tw_vX1_areInLine tw_eX1_areInLine tw_iX1 tw_kX1_areInLine) dw_hX1_areInLine ⟨Nat.le_of_ble_eq_true rfl, Nat.le_of_ble_eq_true rfl⟩ ⟨Nat.zero_le _, Nat.zero_le _⟩ hl.1 (Nat.le_of_ble_eq_true rfl) rfl dX9_trench_36 (fun H locs Z => ?_)
        refine lv_if_eq (tgt := 64) hx hb dX9_trench_39 (by decide) (fun c6 => ?_) (fun c6 => ?_)
        · have h := dw_ifT c6 h
          refine lv_iconst (v := (-1 : Int32)) hx hb dX9_trench_64 (by decide) ?_
          obtain ⟨rfl, rfl⟩ := dw_s2 h
          exact dw_iret C0 Z hr hlk dX9_trench_65
        · have h := dw_ifF c6 h
          refine lv_iload_n hx hb dX9_trench_42 rfl (lv_at hl 4 rfl) ?_
          refine lv_iconst (v := (0 : Int32)) hx hb dX9_trench_43 (by decide) ?_
          refine lv_sipush (v := (2000 : Int32)) hx hb dX9_trench_44 (by decide) ?_
          refine dw_cSi C0 Z dw_hA (As := [.int a3, .int (0 : Int32), .int (2000 : Int32)]) (rest := []) (kX9_isWithin l Γ hj μ a3 (0 : Int32) (2000 : Int32) rfl) (dw_gS tw_lX9_44 tw_sX9_isWithin tw_iX9 tw_kX9_isWithin) dw_hX9_isWithin ⟨Nat.le_of_ble_eq_true rfl, Nat.le_of_ble_eq_true rfl⟩ ⟨Nat.zero_le _, Nat.zero_le _⟩ hl.1 (Nat.le_of_ble_eq_true rfl) rfl dX9_trench_47 (fun H locs Z => ?_)
          refine lv_if_eq (tgt := 64) hx hb dX9_trench_50 (by decide) (fun c7 => ?_) (fun c7 => ?_)
          · have h := dw_ifT c7 h
            refine lv_iconst (v := (-1 : Int32)) hx hb dX9_trench_64 (by decide) ?_
            obtain ⟨rfl, rfl⟩ := dw_s2 h
            exact dw_iret C0 Z hr hlk dX9_trench_65
          · have h := dw_ifF c7 h
            refine lv_iload hx hb dX9_trench_53 (lv_at hl 5 rfl) ?_
            refine lv_iconst (v := (1 : Int32)) hx hb dX9_trench_55 (by decide) ?_
            refine lv_bipush (v := (50 : Int32)) hx hb dX9_trench_56 (by decide) ?_
            refine dw_cSi C0 Z dw_hA (As := [.int a4, .int (1 : Int32), .int (50 : Int32)]) (rest := []) (kX9_isWithin l Γ hj μ a4 (1 : Int32) (50 : Int32) rfl) (dw_gS tw_lX9_44 tw_sX9_isWithin tw_iX9 tw_kX9_isWithin) dw_hX9_isWithin ⟨Nat.le_of_ble_eq_true rfl, Nat.le_of_ble_eq_true rfl⟩ ⟨Nat.zero_le _, Nat.zero_le _⟩ hl.1 (Nat.le_of_ble_eq_true rfl) rfl dX9_trench_58 (fun H locs Z => ?_)
            refine lv_if_ne (tgt := 66) hx hb dX9_trench_61 (by decide) (fun c8 => ?_) (fun c8 => ?_)
            · have h := dw_ifF c8 h
              refine lv_iconst (v := (1 : Int32)) hx hb dX9_trench_66 (by decide) ?_
              refine lv_aload hx hb dX9_trench_67 (lv_at hl 0 rfl) ?_
              refine lv_iload_n hx hb dX9_trench_69 rfl (lv_at hl 2 rfl) ?_
              refine lv_iload_n hx hb dX9_trench_70 rfl (lv_at hl 3 rfl) ?_
              obtain ⟨r10, hc9, h⟩ := dw_bdS h
              refine dw_cVi C0 Z dw_hA (dw_lt dw_kc2 (by decide)) (dw_cz1 dw_kc2) rfl (As := [.int a1, .int a2]) (rest := [.int (1 : Int32)]) (kX1_rowsApart l Γ hj μ a1 a2 hc9) (dw_gV tw_lX9_137 tw_vX1_rowsApart tw_eX1_rowsApart tw_iX1 tw_kX1_rowsApart) dw_hX1_rowsApart ⟨Nat.le_of_ble_eq_true rfl, Nat.le_of_ble_eq_true rfl⟩ ⟨Nat.zero_le _, Nat.zero_le _⟩ hl.1 (Nat.le_of_ble_eq_true rfl) rfl dX9_trench_71 (fun H locs Z => ?_)
              refine lv_iadd hx hb dX9_trench_74 ?_
              refine lv_aload hx hb dX9_trench_75 (lv_at hl 0 rfl) ?_
              refine lv_iload_n hx hb dX9_trench_77 rfl (lv_at hl 2 rfl) ?_
              refine lv_iload_n hx hb dX9_trench_78 rfl (lv_at hl 3 rfl) ?_
              obtain ⟨r12, hc11, h⟩ := dw_bdS h
              refine dw_cVi C0 Z dw_hA (dw_lt dw_kc2 (by decide)) (dw_cz1 dw_kc2) rfl (As := [.int a1, .int a2]) (rest := [.int ((1 : Int32) + r10)]) (kX1_columnsApart l Γ hj μ a1 a2 hc11) (dw_gV tw_lX9_141 tw_vX1_columnsApart tw_eX1_columnsApart tw_iX1 tw_kX1_columnsApart) dw_hX1_columnsApart ⟨Nat.le_of_ble_eq_true rfl, Nat.le_of_ble_eq_true rfl⟩ ⟨Nat.zero_le _, Nat.zero_le _⟩ hl.1 (Nat.le_of_ble_eq_true rfl) rfl dX9_trench_79 (fun H locs Z => ?_)
              refine lv_iadd hx hb dX9_trench_82 ?_
              refine lv_topi (fun x13 ex13 => ?_)
              have h := dw_nmS ex13 h
              refine lv_istore (lv' := [(6, .int x13), (5, .ref (dw_ad Γ 2)), (0, .ref (dw_ad Γ 0)), (1, .int a1), (2, .int a2), (3, .int a3), (4, .int a4)]) hx hb dX9_trench_83 hl (by decide) rfl (fun ls hl => ?_)
              refine lv_aload hx hb dX9_trench_85 (lv_at hl 1 rfl) ?_
              refine lv_iload_n hx hb dX9_trench_87 rfl (lv_at hl 3 rfl) ?_
              refine lv_iload_n hx hb dX9_trench_88 rfl (lv_at hl 4 rfl) ?_
              obtain ⟨r15, hc14, h⟩ := dw_bdS h
              refine dw_cVi C0 Z dw_hA (dw_lt dw_kc2 (by decide)) (dw_cz1 dw_kc2) rfl (As := [.int a1, .int a2]) (rest := []) (kX1_rowsApart l Γ hj μ a1 a2 hc14) (dw_gV tw_lX9_137 tw_vX1_rowsApart tw_eX1_rowsApart tw_iX1 tw_kX1_rowsApart) dw_hX1_rowsApart ⟨Nat.le_of_ble_eq_true rfl, Nat.le_of_ble_eq_true rfl⟩ ⟨Nat.zero_le _, Nat.zero_le _⟩ hl.1 (Nat.le_of_ble_eq_true rfl) rfl dX9_trench_89 (fun H locs Z => ?_)
              obtain ⟨k104, ek104, h⟩ := dw_jnS h
              have J104 : ∀ (x16 : Int32) (H : Heap) (locs : List Loc) (ls : Array Slot), dw_Z Γ (dw_A Γ) s.heap μ H locs → lv_has ls 8 [(0, .ref (dw_ad Γ 0)), (1, .int a1), (2, .int a2), (3, .int a3), (4, .int a4), (6, .int x13)] → k104 x16 = some (r, ν) → W p l e (dw_rm 3 68) s m ([.ref (dw_ad Γ 0), .int a1, .int a2, .int a3, .int a4] : List Value).toArray below meth c H locs 0 0 (MQ below (dw_Qi Γ r ν) ([.ref (dw_ad Γ 0), .int a1, .int a2, .int a3, .int a4] : List Value).toArray s 0 0 (dw_A Γ)) (F0 m 104 ls [.int x16]) := by
                clear h
                intro x16 H locs ls Z hl h
                rw [ek104] at h
                dsimp only at h
                refine lv_istore (lv' := [(7, .int x16), (0, .ref (dw_ad Γ 0)), (1, .int a1), (2, .int a2), (3, .int a3), (4, .int a4), (6, .int x13)]) hx hb dX9_trench_104 hl (by decide) rfl (fun ls hl => ?_)
                refine lv_aload_n hx hb dX9_trench_106 rfl (lv_at hl 1 rfl) ?_
                refine dw_g9_0 (t := 1) C0 Z dw_kc0 tw_fX9_12 rfl dX9_trench_107 ?_
                refine dw_g6_1 (t := 10) C0 Z dw_kc1 tw_fX9_58 rfl dX9_trench_110 ?_
                refine lv_iload_n hx hb dX9_trench_113 rfl (lv_at hl 2 rfl) ?_
                refine lv_iload_n hx hb dX9_trench_114 rfl (lv_at hl 2 rfl) ?_
                refine lv_iload_n hx hb dX9_trench_115 rfl (lv_at hl 3 rfl) ?_
                refine lv_icmp_ge (tgt := 124) hx hb dX9_trench_116 (by decide) (fun c17 => ?_) (fun c17 => ?_)
                · have h := dw_ifT c17 h
                  refine lv_iload hx hb dX9_trench_124 (lv_at hl 0 rfl) ?_
                  refine lv_ineg hx hb dX9_trench_126 ?_
                  refine lv_iload hx hb dX9_trench_127 (lv_at hl 6 rfl) ?_
                  refine lv_iload_n hx hb dX9_trench_129 rfl (lv_at hl 4 rfl) ?_
                  refine lv_iload hx hb dX9_trench_130 (lv_at hl 5 rfl) ?_
                  obtain ⟨μ18, eμ18⟩ := dw_eg (fX3_set μ 10 a1 (-x16) x13 a3 a4)
                  have h := dw_nmS eμ18 h
                  refine dw_cVv C0 Z dw_hA (dw_lt dw_kc10 (by decide)) (dw_cz3 dw_kc10) rfl (As := [.int a1, .int (-x16), .int x13, .int a3, .int a4]) (rest := []) (kX3_set l Γ hj μ 10 dw_kc10 a1 (-x16) x13 a3 a4 eμ18.symm) (dw_gV tw_lX9_147 tw_vX3_set tw_eX3_set tw_iX3 tw_kX3_set) dw_hX3_set ⟨Nat.le_of_ble_eq_true rfl, Nat.le_of_ble_eq_true rfl⟩ ⟨Nat.zero_le _, Nat.zero_le _⟩ hl.1 (Nat.le_of_ble_eq_true rfl) rfl dX9_trench_132 (fun H locs Z => ?_)
                  refine lv_iload hx hb dX9_trench_135 (lv_at hl 6 rfl) ?_
                  obtain ⟨rfl, rfl⟩ := dw_s2 h
                  exact dw_iret C0 Z hr hlk dX9_trench_137
                · have h := dw_ifF c17 h
                  refine lv_iload hx hb dX9_trench_119 (lv_at hl 0 rfl) ?_
                  refine lv_goto (tgt := 127) hx hb dX9_trench_121 (by decide) ?_
                  refine lv_iload hx hb dX9_trench_127 (lv_at hl 6 rfl) ?_
                  refine lv_iload_n hx hb dX9_trench_129 rfl (lv_at hl 4 rfl) ?_
                  refine lv_iload hx hb dX9_trench_130 (lv_at hl 5 rfl) ?_
                  obtain ⟨μ19, eμ19⟩ := dw_eg (fX3_set μ 10 a1 x16 x13 a3 a4)
                  have h := dw_nmS eμ19 h
                  refine dw_cVv C0 Z dw_hA (dw_lt dw_kc10 (by decide)) (dw_cz3 dw_kc10) rfl (As := [.int a1, .int x16, .int x13, .int a3, .int a4]) (rest := []) (kX3_set l Γ hj μ 10 dw_kc10 a1 x16 x13 a3 a4 eμ19.symm) (dw_gV tw_lX9_147 tw_vX3_set tw_eX3_set tw_iX3 tw_kX3_set) dw_hX3_set ⟨Nat.le_of_ble_eq_true rfl, Nat.le_of_ble_eq_true rfl⟩ ⟨Nat.zero_le _, Nat.zero_le _⟩ hl.1 (Nat.le_of_ble_eq_true rfl) rfl dX9_trench_132 (fun H locs Z => ?_)
                  refine lv_iload hx hb dX9_trench_135 (lv_at hl 6 rfl) ?_
                  obtain ⟨rfl, rfl⟩ := dw_s2 h
                  exact dw_iret C0 Z hr hlk dX9_trench_137
              refine lv_if_ne (tgt := 99) hx hb dX9_trench_92 (by decide) (fun c20 => ?_) (fun c20 => ?_)
              · have h := dw_ifF c20 h
                refine lv_aload hx hb dX9_trench_99 (lv_at hl 1 rfl) ?_
                refine dw_g1_0 C0 Z dw_kc2 tw_fX9_144 dX9_trench_101 ?_
                exact J104 (μ.1 2 0) H locs ls Z (lv_sub hl [2, 3, 4, 5, 6, 0] rfl) h
              · have h := dw_ifT c20 h
                refine lv_iconst (v := (1 : Int32)) hx hb dX9_trench_95 (by decide) ?_
                refine lv_goto (tgt := 104) hx hb dX9_trench_96 (by decide) ?_
                exact J104 (1 : Int32) H locs ls Z (lv_sub hl [2, 3, 4, 5, 6, 0] rfl) h
            · have h := dw_ifT c8 h
              refine lv_iconst (v := (-1 : Int32)) hx hb dX9_trench_64 (by decide) ?_
              obtain ⟨rfl, rfl⟩ := dw_s2 h
              exact dw_iret C0 Z hr hlk dX9_trench_65

def fX9_pipe (μ : dw_M) (a1 : Int32) (a2 : Int32) (a3 : Int32) : Option (Int32 × dw_M) :=
  if (fX9_isWithin a1 (0 : Int32) (3 : Int32)) = 0 then (
  some ((-1 : Int32), μ))
  else (
  if (fX9_isWithin a2 (1 : Int32) (4 : Int32)) = 0 then (
  some ((-1 : Int32), μ))
  else (
  dw_jm (if (μ.1 10 2) = 0 then (
  some ((-6 : Int32), μ))
  else (
  dw_bd (fX1_firstBareStep μ 10) (fun r5 =>
  if r5 < 0 then (
  if (μ.1 11 1) < (20 : Int32) then (
  dw_nm (μ.1 11 1) (fun x8 =>
  dw_gd (dw_ok x8 20) (
  dw_nm (fX5_lay μ (12 + 1 + 2 * x8.toNatClampNeg) 10 a1 a2) (fun μ10 =>
  if a1 = (2 : Int32) then (
  dw_nm (dw_st μ10 57 x8.toNatClampNeg a3) (fun μ14 =>
  dw_nm (dw_st μ14 11 1 (x8 + (1 : Int32))) (fun μ15 =>
  some (x8, μ15))))
  else (
  dw_nm (dw_st μ10 57 x8.toNatClampNeg (0 : Int32)) (fun μ12 =>
  dw_nm (dw_st μ12 11 1 (x8 + (1 : Int32))) (fun μ13 =>
  some (x8, μ13))))))))
  else (
  some ((-2 : Int32), μ)))
  else (
  some (((-100 : Int32) - r5), μ))))) (fun k35 =>
  if a1 = (2 : Int32) then (
  if (fX9_isWithin a3 (1 : Int32) (100 : Int32)) = 0 then (
  some ((-1 : Int32), μ))
  else (
  k35))
  else (
  k35))))
set_option maxHeartbeats 4000000 in
set_option maxRecDepth 100000 in
theorem kX9_pipe (l : Launch) (Γ : dw_G) (hj : dw_inj Γ) (μ : dw_M) (a1 : Int32) (a2 : Int32) (a3 : Int32) {r : Int32} {ν : dw_M} (h : fX9_pipe μ a1 a2 a3 = some (r, ν)) : Met l yX9_pipe (dw_ws yX9_pipe cX9_pipe 6 (some .int)) (dw_rm 3 69) (dw_P Γ ([.ref (dw_ad Γ 0), .int a1, .int a2, .int a3] : List Value) μ) (dw_Qi Γ r ν) 0 0 (dw_A Γ) := by
  refine dw_met (own := RX9) rfl rfl (Nat.le_of_ble_eq_true rfl) hj ?_
  intro p e s m below meth c C0 hr hlk Z ls hl
  have hx := C0.1
  have hb := C0.2.1
  have hl : lv_has ls 6 [(0, .ref (dw_ad Γ 0)), (1, .int a1), (2, .int a2), (3, .int a3)] := hl
  suffices key : ∀ (H : Heap) (locs : List Loc), dw_Z Γ (dw_A Γ) s.heap μ H locs → W p l e (dw_rm 3 69) s m ([.ref (dw_ad Γ 0), .int a1, .int a2, .int a3] : List Value).toArray below meth c H locs 0 0 (MQ below (dw_Qi Γ r ν) ([.ref (dw_ad Γ 0), .int a1, .int a2, .int a3] : List Value).toArray s 0 0 (dw_A Γ)) (F0 m 0 ls []) from key _ _ Z
  clear Z
  intro H locs Z
  unfold fX9_pipe at h
  refine lv_iload_n hx hb dX9_pipe_0 rfl (lv_at hl 1 rfl) ?_
  refine lv_iconst (v := (0 : Int32)) hx hb dX9_pipe_1 (by decide) ?_
  refine lv_iconst (v := (3 : Int32)) hx hb dX9_pipe_2 (by decide) ?_
  refine dw_cSi C0 Z dw_hA (As := [.int a1, .int (0 : Int32), .int (3 : Int32)]) (rest := []) (kX9_isWithin l Γ hj μ a1 (0 : Int32) (3 : Int32) rfl) (dw_gS tw_lX9_44 tw_sX9_isWithin tw_iX9 tw_kX9_isWithin) dw_hX9_isWithin ⟨Nat.le_of_ble_eq_true rfl, Nat.le_of_ble_eq_true rfl⟩ ⟨Nat.zero_le _, Nat.zero_le _⟩ hl.1 (Nat.le_of_ble_eq_true rfl) rfl dX9_pipe_3 (fun H locs Z => ?_)
  refine lv_if_eq (tgt := 33) hx hb dX9_pipe_6 (by decide) (fun c1 => ?_) (fun c1 => ?_)
  · have h := dw_ifT c1 h
    refine lv_iconst (v := (-1 : Int32)) hx hb dX9_pipe_33 (by decide) ?_
    obtain ⟨rfl, rfl⟩ := dw_s2 h
    exact dw_iret C0 Z hr hlk dX9_pipe_34
  · have h := dw_ifF c1 h
    refine lv_iload_n hx hb dX9_pipe_9 rfl (lv_at hl 2 rfl) ?_
    refine lv_iconst (v := (1 : Int32)) hx hb dX9_pipe_10 (by decide) ?_
    refine lv_iconst (v := (4 : Int32)) hx hb dX9_pipe_11 (by decide) ?_
    refine dw_cSi C0 Z dw_hA (As := [.int a2, .int (1 : Int32), .int (4 : Int32)]) (rest := []) (kX9_isWithin l Γ hj μ a2 (1 : Int32) (4 : Int32) rfl) (dw_gS tw_lX9_44 tw_sX9_isWithin tw_iX9 tw_kX9_isWithin) dw_hX9_isWithin ⟨Nat.le_of_ble_eq_true rfl, Nat.le_of_ble_eq_true rfl⟩ ⟨Nat.zero_le _, Nat.zero_le _⟩ hl.1 (Nat.le_of_ble_eq_true rfl) rfl dX9_pipe_12 (fun H locs Z => ?_)
    refine lv_if_eq (tgt := 33) hx hb dX9_pipe_15 (by decide) (fun c2 => ?_) (fun c2 => ?_)
    · have h := dw_ifT c2 h
      refine lv_iconst (v := (-1 : Int32)) hx hb dX9_pipe_33 (by decide) ?_
      obtain ⟨rfl, rfl⟩ := dw_s2 h
      exact dw_iret C0 Z hr hlk dX9_pipe_34
    · have h := dw_ifF c2 h
      refine lv_iload_n hx hb dX9_pipe_18 rfl (lv_at hl 1 rfl) ?_
      refine lv_iconst (v := (2 : Int32)) hx hb dX9_pipe_19 (by decide) ?_
      obtain ⟨k35, ek35, h⟩ := dw_jnS h
      have J35 : ∀ (H : Heap) (locs : List Loc) (ls : Array Slot), dw_Z Γ (dw_A Γ) s.heap μ H locs → lv_has ls 6 [(0, .ref (dw_ad Γ 0)), (1, .int a1), (2, .int a2), (3, .int a3)] → k35 = some (r, ν) → W p l e (dw_rm 3 69) s m ([.ref (dw_ad Γ 0), .int a1, .int a2, .int a3] : List Value).toArray below meth c H locs 0 0 (MQ below (dw_Qi Γ r ν) ([.ref (dw_ad Γ 0), .int a1, .int a2, .int a3] : List Value).toArray s 0 0 (dw_A Γ)) (F0 m 35 ls []) := by
        clear h
        intro  H locs ls Z hl h
        rw [ek35] at h
        refine lv_aload_n hx hb dX9_pipe_35 rfl (lv_at hl 0 rfl) ?_
        refine dw_g9_0 (t := 1) C0 Z dw_kc0 tw_fX9_12 rfl dX9_pipe_36 ?_
        refine dw_g6_1 (t := 10) C0 Z dw_kc1 tw_fX9_58 rfl dX9_pipe_39 ?_
        refine dw_g3_2 C0 Z dw_kc10 tw_fX9_151 dX9_pipe_42 ?_
        refine lv_if_ne (tgt := 51) hx hb dX9_pipe_45 (by decide) (fun c3 => ?_) (fun c3 => ?_)
        · have h := dw_ifF c3 h
          refine lv_aload_n hx hb dX9_pipe_51 rfl (lv_at hl 0 rfl) ?_
          refine dw_g9_0 (t := 1) C0 Z dw_kc0 tw_fX9_12 rfl dX9_pipe_52 ?_
          refine dw_g6_0 (t := 2) C0 Z dw_kc1 tw_fX9_48 rfl dX9_pipe_55 ?_
          refine lv_aload_n hx hb dX9_pipe_58 rfl (lv_at hl 0 rfl) ?_
          refine dw_g9_0 (t := 1) C0 Z dw_kc0 tw_fX9_12 rfl dX9_pipe_59 ?_
          refine dw_g6_1 (t := 10) C0 Z dw_kc1 tw_fX9_58 rfl dX9_pipe_62 ?_
          obtain ⟨r5, hc4, h⟩ := dw_bdS h
          refine dw_cVi C0 Z dw_hA (dw_lt dw_kc2 (by decide)) (dw_cz1 dw_kc2) rfl (As := [.ref (dw_ad Γ 10)]) (rest := []) (kX1_firstBareStep l Γ hj μ 10 dw_kc10 hc4) (dw_gV tw_lX9_154 tw_vX1_firstBareStep tw_eX1_firstBareStep tw_iX1 tw_kX1_firstBareStep) dw_hX1_firstBareStep ⟨Nat.le_of_ble_eq_true rfl, Nat.le_of_ble_eq_true rfl⟩ ⟨Nat.zero_le _, Nat.zero_le _⟩ hl.1 (Nat.le_of_ble_eq_true rfl) rfl dX9_pipe_65 (fun H locs Z => ?_)
          refine lv_istore (lv' := [(4, .int r5), (0, .ref (dw_ad Γ 0)), (1, .int a1), (2, .int a2), (3, .int a3)]) hx hb dX9_pipe_68 hl (by decide) rfl (fun ls hl => ?_)
          refine lv_iload hx hb dX9_pipe_70 (lv_at hl 0 rfl) ?_
          refine lv_if_lt (tgt := 81) hx hb dX9_pipe_72 (by decide) (fun c6 => ?_) (fun c6 => ?_)
          · have h := dw_ifT c6 h
            refine lv_aload_n hx hb dX9_pipe_81 rfl (lv_at hl 1 rfl) ?_
            refine dw_g9_0 (t := 1) C0 Z dw_kc0 tw_fX9_12 rfl dX9_pipe_82 ?_
            refine dw_g6_2 (t := 11) C0 Z dw_kc1 tw_fX9_67 rfl dX9_pipe_85 ?_
            refine dw_g4_1 C0 Z dw_kc11 tw_fX9_71 dX9_pipe_88 ?_
            refine lv_bipush (v := (20 : Int32)) hx hb dX9_pipe_91 (by decide) ?_
            refine lv_icmp_lt (tgt := 99) hx hb dX9_pipe_93 (by decide) (fun c7 => ?_) (fun c7 => ?_)
            · have h := dw_ifT c7 h
              refine lv_aload_n hx hb dX9_pipe_99 rfl (lv_at hl 1 rfl) ?_
              refine dw_g9_0 (t := 1) C0 Z dw_kc0 tw_fX9_12 rfl dX9_pipe_100 ?_
              refine dw_g6_2 (t := 11) C0 Z dw_kc1 tw_fX9_67 rfl dX9_pipe_103 ?_
              refine dw_g4_1 C0 Z dw_kc11 tw_fX9_71 dX9_pipe_106 ?_
              refine lv_topi (fun x8 ex8 => ?_)
              have h := dw_nmS ex8 h
              refine lv_istore (lv' := [(5, .int x8), (4, .int r5), (0, .ref (dw_ad Γ 0)), (1, .int a1), (2, .int a2), (3, .int a3)]) hx hb dX9_pipe_109 hl (by decide) rfl (fun ls hl => ?_)
              refine lv_aload_n hx hb dX9_pipe_111 rfl (lv_at hl 2 rfl) ?_
              refine dw_g9_0 (t := 1) C0 Z dw_kc0 tw_fX9_12 rfl dX9_pipe_112 ?_
              refine dw_g6_2 (t := 11) C0 Z dw_kc1 tw_fX9_67 rfl dX9_pipe_115 ?_
              refine dw_g4_0 (t := 12) C0 Z dw_kc11 tw_fX9_158 rfl dX9_pipe_118 ?_
              refine lv_iload hx hb dX9_pipe_121 (lv_at hl 0 rfl) ?_
              obtain ⟨g9, h⟩ := dw_gdS h
              refine dw_aald C0 Z dw_kc12 g9 dX9_pipe_123 ?_
              refine lv_aload_n hx hb dX9_pipe_124 rfl (lv_at hl 2 rfl) ?_
              refine dw_g9_0 (t := 1) C0 Z dw_kc0 tw_fX9_12 rfl dX9_pipe_125 ?_
              refine dw_g6_1 (t := 10) C0 Z dw_kc1 tw_fX9_58 rfl dX9_pipe_128 ?_
              refine lv_iload_n hx hb dX9_pipe_131 rfl (lv_at hl 3 rfl) ?_
              refine lv_iload_n hx hb dX9_pipe_132 rfl (lv_at hl 4 rfl) ?_
              obtain ⟨μ10, eμ10⟩ := dw_eg (fX5_lay μ (12 + 1 + 2 * x8.toNatClampNeg) 10 a1 a2)
              have h := dw_nmS eμ10 h
              refine dw_cVv C0 Z dw_hA (dw_lt (dw_pk dw_kc12 (dw_ok_lt g9)) (by decide)) (dw_cz5 (dw_pk dw_kc12 (dw_ok_lt g9))) rfl (As := [.ref (dw_ad Γ 10), .int a1, .int a2]) (rest := []) (kX5_lay l Γ hj μ (12 + 1 + 2 * x8.toNatClampNeg) (dw_pk dw_kc12 (dw_ok_lt g9)) 10 dw_kc10 a1 a2 eμ10.symm) (dw_gV tw_lX9_162 tw_vX5_lay tw_eX5_lay tw_iX5 tw_kX5_lay) dw_hX5_lay ⟨Nat.le_of_ble_eq_true rfl, Nat.le_of_ble_eq_true rfl⟩ ⟨Nat.zero_le _, Nat.zero_le _⟩ hl.1 (Nat.le_of_ble_eq_true rfl) rfl dX9_pipe_133 (fun H locs Z => ?_)
              refine lv_aload_n hx hb dX9_pipe_136 rfl (lv_at hl 2 rfl) ?_
              refine dw_g9_0 (t := 1) C0 Z dw_kc0 tw_fX9_12 rfl dX9_pipe_137 ?_
              refine dw_g6_3 (t := 53) C0 Z dw_kc1 tw_fX9_77 rfl dX9_pipe_140 ?_
              refine dw_g8_3 (t := 57) C0 Z dw_kc53 tw_fX9_168 rfl dX9_pipe_143 ?_
              refine lv_iload hx hb dX9_pipe_146 (lv_at hl 0 rfl) ?_
              refine lv_iload_n hx hb dX9_pipe_148 rfl (lv_at hl 3 rfl) ?_
              refine lv_iconst (v := (2 : Int32)) hx hb dX9_pipe_149 (by decide) ?_
              refine lv_icmp_ne (tgt := 157) hx hb dX9_pipe_150 (by decide) (fun c11 => ?_) (fun c11 => ?_)
              · have h := dw_ifF c11 h
                refine lv_iconst (v := (0 : Int32)) hx hb dX9_pipe_157 (by decide) ?_
                refine dw_ast C0 Z dw_hA dw_kc57 dw_lc57 g9 dX9_pipe_158 (fun μ12 eμ12 H locs Z => ?_)
                have h := dw_nmS eμ12 h
                refine lv_aload_n hx hb dX9_pipe_159 rfl (lv_at hl 2 rfl) ?_
                refine dw_g9_0 (t := 1) C0 Z dw_kc0 tw_fX9_12 rfl dX9_pipe_160 ?_
                refine dw_g6_2 (t := 11) C0 Z dw_kc1 tw_fX9_67 rfl dX9_pipe_163 ?_
                refine lv_iload hx hb dX9_pipe_166 (lv_at hl 0 rfl) ?_
                refine lv_iconst (v := (1 : Int32)) hx hb dX9_pipe_168 (by decide) ?_
                refine lv_iadd hx hb dX9_pipe_169 ?_
                refine dw_p4_1 C0 Z dw_hA dw_kc11 tw_fX9_71 dX9_pipe_170 (fun μ13 eμ13 H locs Z => ?_)
                have h := dw_nmS eμ13 h
                refine lv_iload hx hb dX9_pipe_173 (lv_at hl 0 rfl) ?_
                obtain ⟨rfl, rfl⟩ := dw_s2 h
                exact dw_iret C0 Z hr hlk dX9_pipe_175
              · have h := dw_ifT c11 h
                refine lv_iload_n hx hb dX9_pipe_153 rfl (lv_at hl 5 rfl) ?_
                refine lv_goto (tgt := 158) hx hb dX9_pipe_154 (by decide) ?_
                refine dw_ast C0 Z dw_hA dw_kc57 dw_lc57 g9 dX9_pipe_158 (fun μ14 eμ14 H locs Z => ?_)
                have h := dw_nmS eμ14 h
                refine lv_aload_n hx hb dX9_pipe_159 rfl (lv_at hl 2 rfl) ?_
                refine dw_g9_0 (t := 1) C0 Z dw_kc0 tw_fX9_12 rfl dX9_pipe_160 ?_
                refine dw_g6_2 (t := 11) C0 Z dw_kc1 tw_fX9_67 rfl dX9_pipe_163 ?_
                refine lv_iload hx hb dX9_pipe_166 (lv_at hl 0 rfl) ?_
                refine lv_iconst (v := (1 : Int32)) hx hb dX9_pipe_168 (by decide) ?_
                refine lv_iadd hx hb dX9_pipe_169 ?_
                refine dw_p4_1 C0 Z dw_hA dw_kc11 tw_fX9_71 dX9_pipe_170 (fun μ15 eμ15 H locs Z => ?_)
                have h := dw_nmS eμ15 h
                refine lv_iload hx hb dX9_pipe_173 (lv_at hl 0 rfl) ?_
                obtain ⟨rfl, rfl⟩ := dw_s2 h
                exact dw_iret C0 Z hr hlk dX9_pipe_175
            · have h := dw_ifF c7 h
              refine lv_bipush (v := (-2 : Int32)) hx hb dX9_pipe_96 (by decide) ?_
              obtain ⟨rfl, rfl⟩ := dw_s2 h
              exact dw_iret C0 Z hr hlk dX9_pipe_98
          · have h := dw_ifF c6 h
            refine lv_bipush (v := (-100 : Int32)) hx hb dX9_pipe_75 (by decide) ?_
            refine lv_iload hx hb dX9_pipe_77 (lv_at hl 0 rfl) ?_
            refine lv_isub hx hb dX9_pipe_79 ?_
            obtain ⟨rfl, rfl⟩ := dw_s2 h
            exact dw_iret C0 Z hr hlk dX9_pipe_80
        · have h := dw_ifT c3 h
          refine lv_bipush (v := (-6 : Int32)) hx hb dX9_pipe_48 (by decide) ?_
          obtain ⟨rfl, rfl⟩ := dw_s2 h
          exact dw_iret C0 Z hr hlk dX9_pipe_50
      refine lv_icmp_ne (tgt := 35) hx hb dX9_pipe_20 (by decide) (fun c16 => ?_) (fun c16 => ?_)
      · have h := dw_ifF c16 h
        exact J35 H locs ls Z (lv_sub hl [0, 1, 2, 3] rfl) h
      · have h := dw_ifT c16 h
        refine lv_iload_n hx hb dX9_pipe_23 rfl (lv_at hl 3 rfl) ?_
        refine lv_iconst (v := (1 : Int32)) hx hb dX9_pipe_24 (by decide) ?_
        refine lv_bipush (v := (100 : Int32)) hx hb dX9_pipe_25 (by decide) ?_
        refine dw_cSi C0 Z dw_hA (As := [.int a3, .int (1 : Int32), .int (100 : Int32)]) (rest := []) (kX9_isWithin l Γ hj μ a3 (1 : Int32) (100 : Int32) rfl) (dw_gS tw_lX9_44 tw_sX9_isWithin tw_iX9 tw_kX9_isWithin) dw_hX9_isWithin ⟨Nat.le_of_ble_eq_true rfl, Nat.le_of_ble_eq_true rfl⟩ ⟨Nat.zero_le _, Nat.zero_le _⟩ hl.1 (Nat.le_of_ble_eq_true rfl) rfl dX9_pipe_27 (fun H locs Z => ?_)
        refine lv_if_ne (tgt := 35) hx hb dX9_pipe_30 (by decide) (fun c17 => ?_) (fun c17 => ?_)
        · have h := dw_ifF c17 h
          exact J35 H locs ls Z (lv_sub hl [0, 1, 2, 3] rfl) h
        · have h := dw_ifT c17 h
          refine lv_iconst (v := (-1 : Int32)) hx hb dX9_pipe_33 (by decide) ?_
          obtain ⟨rfl, rfl⟩ := dw_s2 h
          exact dw_iret C0 Z hr hlk dX9_pipe_34

def fX9_join (μ : dw_M) (a1 : Int32) (a2 : Int32) : Option (Int32 × dw_M) :=
  if (fX4_hasPipe μ a1) = 0 then (
  some ((-1 : Int32), μ))
  else (
  if (fX4_hasPipe μ a2) = 0 then (
  some ((-1 : Int32), μ))
  else (
  dw_gd (dw_ok a1 20) (
  dw_gd (dw_ok a2 20) (
  dw_nm ((μ.1 ((12 + 1 + 2 * a1.toNatClampNeg) + 1) 2) - (1 : Int32)) (fun x5 =>
  dw_bd (fX3_stepOn μ ((12 + 1 + 2 * a2.toNatClampNeg) + 1) (fX3_placeAt μ ((12 + 1 + 2 * a1.toNatClampNeg) + 1) x5)) (fun r7 =>
  if (μ.1 (12 + 1 + 2 * a1.toNatClampNeg) 1) = (3 : Int32) then (
  some ((-3 : Int32), μ))
  else (
  if (fX5_isMain μ (12 + 1 + 2 * a2.toNatClampNeg)) = 0 then (
  some ((-3 : Int32), μ))
  else (
  if 0 ≤ r7 then (
  if (fX3_levelAt μ ((12 + 1 + 2 * a2.toNatClampNeg) + 1) r7) ≤ (fX3_levelAt μ ((12 + 1 + 2 * a1.toNatClampNeg) + 1) x5) then (
  dw_bd (fX4_leadsTo μ a2 a1) (fun r13 =>
  if r13 = 0 then (
  dw_nm (dw_st μ (12 + 1 + 2 * a1.toNatClampNeg) 5 a2) (fun μ15 =>
  dw_bd (fX4_rankOf μ15 a1) (fun r17 =>
  some (r17, μ15))))
  else (
  some ((-5 : Int32), μ))))
  else (
  some ((-4 : Int32), μ)))
  else (
  some ((-3 : Int32), μ))))))))))
set_option maxHeartbeats 4000000 in
set_option maxRecDepth 100000 in
theorem kX9_join (l : Launch) (Γ : dw_G) (hj : dw_inj Γ) (μ : dw_M) (a1 : Int32) (a2 : Int32) {r : Int32} {ν : dw_M} (h : fX9_join μ a1 a2 = some (r, ν)) : Met l yX9_join (dw_ws yX9_join cX9_join 7 (some .int)) (dw_rm 2 45) (dw_P Γ ([.ref (dw_ad Γ 0), .int a1, .int a2] : List Value) μ) (dw_Qi Γ r ν) 0 0 (dw_A Γ) := by
  refine dw_met (own := RX9) rfl rfl (Nat.le_of_ble_eq_true rfl) hj ?_
  intro p e s m below meth c C0 hr hlk Z ls hl
  have hx := C0.1
  have hb := C0.2.1
  have hl : lv_has ls 7 [(0, .ref (dw_ad Γ 0)), (1, .int a1), (2, .int a2)] := hl
  suffices key : ∀ (H : Heap) (locs : List Loc), dw_Z Γ (dw_A Γ) s.heap μ H locs → W p l e (dw_rm 2 45) s m ([.ref (dw_ad Γ 0), .int a1, .int a2] : List Value).toArray below meth c H locs 0 0 (MQ below (dw_Qi Γ r ν) ([.ref (dw_ad Γ 0), .int a1, .int a2] : List Value).toArray s 0 0 (dw_A Γ)) (F0 m 0 ls []) from key _ _ Z
  clear Z
  intro H locs Z
  unfold fX9_join at h
  refine lv_aload_n hx hb dX9_join_0 rfl (lv_at hl 0 rfl) ?_
  refine dw_g9_0 (t := 1) C0 Z dw_kc0 tw_fX9_12 rfl dX9_join_1 ?_
  refine dw_g6_2 (t := 11) C0 Z dw_kc1 tw_fX9_67 rfl dX9_join_4 ?_
  refine lv_iload_n hx hb dX9_join_7 rfl (lv_at hl 1 rfl) ?_
  refine dw_cVi C0 Z dw_hA (dw_lt dw_kc11 (by decide)) (dw_cz4 dw_kc11) rfl (As := [.int a1]) (rest := []) (kX4_hasPipe l Γ hj μ a1 rfl) (dw_gV tw_lX9_171 tw_vX4_hasPipe tw_eX4_hasPipe tw_iX4 tw_kX4_hasPipe) dw_hX4_hasPipe ⟨Nat.le_of_ble_eq_true rfl, Nat.le_of_ble_eq_true rfl⟩ ⟨Nat.zero_le _, Nat.zero_le _⟩ hl.1 (Nat.le_of_ble_eq_true rfl) rfl dX9_join_8 (fun H locs Z => ?_)
  refine lv_if_eq (tgt := 28) hx hb dX9_join_11 (by decide) (fun c1 => ?_) (fun c1 => ?_)
  · have h := dw_ifT c1 h
    refine lv_iconst (v := (-1 : Int32)) hx hb dX9_join_28 (by decide) ?_
    obtain ⟨rfl, rfl⟩ := dw_s2 h
    exact dw_iret C0 Z hr hlk dX9_join_29
  · have h := dw_ifF c1 h
    refine lv_aload_n hx hb dX9_join_14 rfl (lv_at hl 0 rfl) ?_
    refine dw_g9_0 (t := 1) C0 Z dw_kc0 tw_fX9_12 rfl dX9_join_15 ?_
    refine dw_g6_2 (t := 11) C0 Z dw_kc1 tw_fX9_67 rfl dX9_join_18 ?_
    refine lv_iload_n hx hb dX9_join_21 rfl (lv_at hl 2 rfl) ?_
    refine dw_cVi C0 Z dw_hA (dw_lt dw_kc11 (by decide)) (dw_cz4 dw_kc11) rfl (As := [.int a2]) (rest := []) (kX4_hasPipe l Γ hj μ a2 rfl) (dw_gV tw_lX9_171 tw_vX4_hasPipe tw_eX4_hasPipe tw_iX4 tw_kX4_hasPipe) dw_hX4_hasPipe ⟨Nat.le_of_ble_eq_true rfl, Nat.le_of_ble_eq_true rfl⟩ ⟨Nat.zero_le _, Nat.zero_le _⟩ hl.1 (Nat.le_of_ble_eq_true rfl) rfl dX9_join_22 (fun H locs Z => ?_)
    refine lv_if_ne (tgt := 30) hx hb dX9_join_25 (by decide) (fun c2 => ?_) (fun c2 => ?_)
    · have h := dw_ifF c2 h
      refine lv_aload_n hx hb dX9_join_30 rfl (lv_at hl 0 rfl) ?_
      refine dw_g9_0 (t := 1) C0 Z dw_kc0 tw_fX9_12 rfl dX9_join_31 ?_
      refine dw_g6_2 (t := 11) C0 Z dw_kc1 tw_fX9_67 rfl dX9_join_34 ?_
      refine dw_g4_0 (t := 12) C0 Z dw_kc11 tw_fX9_158 rfl dX9_join_37 ?_
      refine lv_iload_n hx hb dX9_join_40 rfl (lv_at hl 1 rfl) ?_
      obtain ⟨g3, h⟩ := dw_gdS h
      refine dw_aald C0 Z dw_kc12 g3 dX9_join_41 ?_
      refine lv_astore_n (lv' := [(3, .ref (dw_ad Γ (12 + 1 + 2 * a1.toNatClampNeg))), (0, .ref (dw_ad Γ 0)), (1, .int a1), (2, .int a2)]) hx hb dX9_join_42 rfl hl (by decide) rfl (fun ls hl => ?_)
      refine lv_aload_n hx hb dX9_join_43 rfl (lv_at hl 1 rfl) ?_
      refine dw_g9_0 (t := 1) C0 Z dw_kc0 tw_fX9_12 rfl dX9_join_44 ?_
      refine dw_g6_2 (t := 11) C0 Z dw_kc1 tw_fX9_67 rfl dX9_join_47 ?_
      refine dw_g4_0 (t := 12) C0 Z dw_kc11 tw_fX9_158 rfl dX9_join_50 ?_
      refine lv_iload_n hx hb dX9_join_53 rfl (lv_at hl 3 rfl) ?_
      obtain ⟨g4, h⟩ := dw_gdS h
      refine dw_aald C0 Z dw_kc12 g4 dX9_join_54 ?_
      refine lv_astore (lv' := [(4, .ref (dw_ad Γ (12 + 1 + 2 * a2.toNatClampNeg))), (3, .ref (dw_ad Γ (12 + 1 + 2 * a1.toNatClampNeg))), (0, .ref (dw_ad Γ 0)), (1, .int a1), (2, .int a2)]) hx hb dX9_join_55 hl (by decide) rfl (fun ls hl => ?_)
      refine lv_aload_n hx hb dX9_join_57 rfl (lv_at hl 1 rfl) ?_
      refine dw_g5_0 (t := ((12 + 1 + 2 * a1.toNatClampNeg) + 1)) C0 Z (dw_pk dw_kc12 (dw_ok_lt g3)) tw_fX9_174 rfl dX9_join_58 ?_
      refine dw_g3_2 C0 Z (dw_r5_0 (dw_pk dw_kc12 (dw_ok_lt g3))) tw_fX9_151 dX9_join_61 ?_
      refine lv_iconst (v := (1 : Int32)) hx hb dX9_join_64 (by decide) ?_
      refine lv_isub hx hb dX9_join_65 ?_
      refine lv_topi (fun x5 ex5 => ?_)
      have h := dw_nmS ex5 h
      refine lv_istore (lv' := [(5, .int x5), (4, .ref (dw_ad Γ (12 + 1 + 2 * a2.toNatClampNeg))), (3, .ref (dw_ad Γ (12 + 1 + 2 * a1.toNatClampNeg))), (0, .ref (dw_ad Γ 0)), (1, .int a1), (2, .int a2)]) hx hb dX9_join_66 hl (by decide) rfl (fun ls hl => ?_)
      refine lv_aload hx hb dX9_join_68 (lv_at hl 1 rfl) ?_
      refine dw_g5_0 (t := ((12 + 1 + 2 * a2.toNatClampNeg) + 1)) C0 Z (dw_pk dw_kc12 (dw_ok_lt g4)) tw_fX9_174 rfl dX9_join_70 ?_
      refine lv_aload_n hx hb dX9_join_73 rfl (lv_at hl 2 rfl) ?_
      refine dw_g5_0 (t := ((12 + 1 + 2 * a1.toNatClampNeg) + 1)) C0 Z (dw_pk dw_kc12 (dw_ok_lt g3)) tw_fX9_174 rfl dX9_join_74 ?_
      refine lv_iload hx hb dX9_join_77 (lv_at hl 0 rfl) ?_
      refine dw_cVi C0 Z dw_hA (dw_lt (dw_r5_0 (dw_pk dw_kc12 (dw_ok_lt g3))) (by decide)) (dw_cz3 (dw_r5_0 (dw_pk dw_kc12 (dw_ok_lt g3)))) rfl (As := [.int x5]) (rest := [.ref (dw_ad Γ ((12 + 1 + 2 * a2.toNatClampNeg) + 1))]) (kX3_placeAt l Γ hj μ ((12 + 1 + 2 * a1.toNatClampNeg) + 1) (dw_r5_0 (dw_pk dw_kc12 (dw_ok_lt g3))) x5 rfl) (dw_gV tw_lX9_177 tw_vX3_placeAt tw_eX3_placeAt tw_iX3 tw_kX3_placeAt) dw_hX3_placeAt ⟨Nat.le_of_ble_eq_true rfl, Nat.le_of_ble_eq_true rfl⟩ ⟨Nat.zero_le _, Nat.zero_le _⟩ hl.1 (Nat.le_of_ble_eq_true rfl) rfl dX9_join_79 (fun H locs Z => ?_)
      obtain ⟨r7, hc6, h⟩ := dw_bdS h
      refine dw_cVi C0 Z dw_hA (dw_lt (dw_r5_0 (dw_pk dw_kc12 (dw_ok_lt g4))) (by decide)) (dw_cz3 (dw_r5_0 (dw_pk dw_kc12 (dw_ok_lt g4)))) rfl (As := [.int (fX3_placeAt μ ((12 + 1 + 2 * a1.toNatClampNeg) + 1) x5)]) (rest := []) (kX3_stepOn l Γ hj μ ((12 + 1 + 2 * a2.toNatClampNeg) + 1) (dw_r5_0 (dw_pk dw_kc12 (dw_ok_lt g4))) (fX3_placeAt μ ((12 + 1 + 2 * a1.toNatClampNeg) + 1) x5) hc6) (dw_gV tw_lX9_181 tw_vX3_stepOn tw_eX3_stepOn tw_iX3 tw_kX3_stepOn) dw_hX3_stepOn ⟨Nat.le_of_ble_eq_true rfl, Nat.le_of_ble_eq_true rfl⟩ ⟨Nat.zero_le _, Nat.zero_le _⟩ hl.1 (Nat.le_of_ble_eq_true rfl) rfl dX9_join_82 (fun H locs Z => ?_)
      refine lv_istore (lv' := [(6, .int r7), (5, .int x5), (4, .ref (dw_ad Γ (12 + 1 + 2 * a2.toNatClampNeg))), (3, .ref (dw_ad Γ (12 + 1 + 2 * a1.toNatClampNeg))), (0, .ref (dw_ad Γ 0)), (1, .int a1), (2, .int a2)]) hx hb dX9_join_85 hl (by decide) rfl (fun ls hl => ?_)
      refine lv_aload_n hx hb dX9_join_87 rfl (lv_at hl 3 rfl) ?_
      refine dw_g5_1 C0 Z (dw_pk dw_kc12 (dw_ok_lt g3)) tw_fX9_184 dX9_join_88 ?_
      refine lv_iconst (v := (3 : Int32)) hx hb dX9_join_91 (by decide) ?_
      refine lv_icmp_eq (tgt := 108) hx hb dX9_join_92 (by decide) (fun c8 => ?_) (fun c8 => ?_)
      · have h := dw_ifT c8 h
        refine lv_bipush (v := (-3 : Int32)) hx hb dX9_join_108 (by decide) ?_
        obtain ⟨rfl, rfl⟩ := dw_s2 h
        exact dw_iret C0 Z hr hlk dX9_join_110
      · have h := dw_ifF c8 h
        refine lv_aload hx hb dX9_join_95 (lv_at hl 2 rfl) ?_
        refine dw_cVi C0 Z dw_hA (dw_lt (dw_pk dw_kc12 (dw_ok_lt g4)) (by decide)) (dw_cz5 (dw_pk dw_kc12 (dw_ok_lt g4))) rfl (As := []) (rest := []) (kX5_isMain l Γ hj μ (12 + 1 + 2 * a2.toNatClampNeg) (dw_pk dw_kc12 (dw_ok_lt g4)) rfl) (dw_gV tw_lX9_187 tw_vX5_isMain tw_eX5_isMain tw_iX5 tw_kX5_isMain) dw_hX5_isMain ⟨Nat.le_of_ble_eq_true rfl, Nat.le_of_ble_eq_true rfl⟩ ⟨Nat.zero_le _, Nat.zero_le _⟩ hl.1 (Nat.le_of_ble_eq_true rfl) rfl dX9_join_97 (fun H locs Z => ?_)
        refine lv_if_eq (tgt := 108) hx hb dX9_join_100 (by decide) (fun c9 => ?_) (fun c9 => ?_)
        · have h := dw_ifT c9 h
          refine lv_bipush (v := (-3 : Int32)) hx hb dX9_join_108 (by decide) ?_
          obtain ⟨rfl, rfl⟩ := dw_s2 h
          exact dw_iret C0 Z hr hlk dX9_join_110
        · have h := dw_ifF c9 h
          refine lv_iload hx hb dX9_join_103 (lv_at hl 0 rfl) ?_
          refine lv_if_ge (tgt := 111) hx hb dX9_join_105 (by decide) (fun c10 => ?_) (fun c10 => ?_)
          · have h := dw_ifT c10 h
            refine lv_aload_n hx hb dX9_join_111 rfl (lv_at hl 3 rfl) ?_
            refine dw_g5_0 (t := ((12 + 1 + 2 * a1.toNatClampNeg) + 1)) C0 Z (dw_pk dw_kc12 (dw_ok_lt g3)) tw_fX9_174 rfl dX9_join_112 ?_
            refine lv_iload hx hb dX9_join_115 (lv_at hl 1 rfl) ?_
            refine dw_cVi C0 Z dw_hA (dw_lt (dw_r5_0 (dw_pk dw_kc12 (dw_ok_lt g3))) (by decide)) (dw_cz3 (dw_r5_0 (dw_pk dw_kc12 (dw_ok_lt g3)))) rfl (As := [.int x5]) (rest := []) (kX3_levelAt l Γ hj μ ((12 + 1 + 2 * a1.toNatClampNeg) + 1) (dw_r5_0 (dw_pk dw_kc12 (dw_ok_lt g3))) x5 rfl) (dw_gV tw_lX9_191 tw_vX3_levelAt tw_eX3_levelAt tw_iX3 tw_kX3_levelAt) dw_hX3_levelAt ⟨Nat.le_of_ble_eq_true rfl, Nat.le_of_ble_eq_true rfl⟩ ⟨Nat.zero_le _, Nat.zero_le _⟩ hl.1 (Nat.le_of_ble_eq_true rfl) rfl dX9_join_117 (fun H locs Z => ?_)
            refine lv_aload hx hb dX9_join_120 (lv_at hl 2 rfl) ?_
            refine dw_g5_0 (t := ((12 + 1 + 2 * a2.toNatClampNeg) + 1)) C0 Z (dw_pk dw_kc12 (dw_ok_lt g4)) tw_fX9_174 rfl dX9_join_122 ?_
            refine lv_iload hx hb dX9_join_125 (lv_at hl 0 rfl) ?_
            refine dw_cVi C0 Z dw_hA (dw_lt (dw_r5_0 (dw_pk dw_kc12 (dw_ok_lt g4))) (by decide)) (dw_cz3 (dw_r5_0 (dw_pk dw_kc12 (dw_ok_lt g4)))) rfl (As := [.int r7]) (rest := [.int (fX3_levelAt μ ((12 + 1 + 2 * a1.toNatClampNeg) + 1) x5)]) (kX3_levelAt l Γ hj μ ((12 + 1 + 2 * a2.toNatClampNeg) + 1) (dw_r5_0 (dw_pk dw_kc12 (dw_ok_lt g4))) r7 rfl) (dw_gV tw_lX9_191 tw_vX3_levelAt tw_eX3_levelAt tw_iX3 tw_kX3_levelAt) dw_hX3_levelAt ⟨Nat.le_of_ble_eq_true rfl, Nat.le_of_ble_eq_true rfl⟩ ⟨Nat.zero_le _, Nat.zero_le _⟩ hl.1 (Nat.le_of_ble_eq_true rfl) rfl dX9_join_127 (fun H locs Z => ?_)
            refine lv_icmp_ge (tgt := 136) hx hb dX9_join_130 (by decide) (fun c11 => ?_) (fun c11 => ?_)
            · have h := dw_ifT c11 h
              refine lv_aload_n hx hb dX9_join_136 rfl (lv_at hl 4 rfl) ?_
              refine dw_g9_0 (t := 1) C0 Z dw_kc0 tw_fX9_12 rfl dX9_join_137 ?_
              refine dw_g6_2 (t := 11) C0 Z dw_kc1 tw_fX9_67 rfl dX9_join_140 ?_
              refine lv_iload_n hx hb dX9_join_143 rfl (lv_at hl 6 rfl) ?_
              refine lv_iload_n hx hb dX9_join_144 rfl (lv_at hl 5 rfl) ?_
              obtain ⟨r13, hc12, h⟩ := dw_bdS h
              refine dw_cVi C0 Z dw_hA (dw_lt dw_kc11 (by decide)) (dw_cz4 dw_kc11) rfl (As := [.int a2, .int a1]) (rest := []) (kX4_leadsTo l Γ hj μ a2 a1 hc12) (dw_gV tw_lX9_194 tw_vX4_leadsTo tw_eX4_leadsTo tw_iX4 tw_kX4_leadsTo) dw_hX4_leadsTo ⟨Nat.le_of_ble_eq_true rfl, Nat.le_of_ble_eq_true rfl⟩ ⟨Nat.zero_le _, Nat.zero_le _⟩ hl.1 (Nat.le_of_ble_eq_true rfl) rfl dX9_join_145 (fun H locs Z => ?_)
              refine lv_if_eq (tgt := 154) hx hb dX9_join_148 (by decide) (fun c14 => ?_) (fun c14 => ?_)
              · have h := dw_ifT c14 h
                refine lv_aload_n hx hb dX9_join_154 rfl (lv_at hl 3 rfl) ?_
                refine lv_iload_n hx hb dX9_join_155 rfl (lv_at hl 6 rfl) ?_
                refine dw_p5_5 C0 Z dw_hA (dw_pk dw_kc12 (dw_ok_lt g3)) tw_fX9_197 dX9_join_156 (fun μ15 eμ15 H locs Z => ?_)
                have h := dw_nmS eμ15 h
                refine lv_aload_n hx hb dX9_join_159 rfl (lv_at hl 4 rfl) ?_
                refine dw_g9_0 (t := 1) C0 Z dw_kc0 tw_fX9_12 rfl dX9_join_160 ?_
                refine dw_g6_2 (t := 11) C0 Z dw_kc1 tw_fX9_67 rfl dX9_join_163 ?_
                refine lv_iload_n hx hb dX9_join_166 rfl (lv_at hl 5 rfl) ?_
                obtain ⟨r17, hc16, h⟩ := dw_bdS h
                refine dw_cVi C0 Z dw_hA (dw_lt dw_kc11 (by decide)) (dw_cz4 dw_kc11) rfl (As := [.int a1]) (rest := []) (kX4_rankOf l Γ hj μ15 a1 hc16) (dw_gV tw_lX9_200 tw_vX4_rankOf tw_eX4_rankOf tw_iX4 tw_kX4_rankOf) dw_hX4_rankOf ⟨Nat.le_of_ble_eq_true rfl, Nat.le_of_ble_eq_true rfl⟩ ⟨Nat.zero_le _, Nat.zero_le _⟩ hl.1 (Nat.le_of_ble_eq_true rfl) rfl dX9_join_167 (fun H locs Z => ?_)
                obtain ⟨rfl, rfl⟩ := dw_s2 h
                exact dw_iret C0 Z hr hlk dX9_join_170
              · have h := dw_ifF c14 h
                refine lv_bipush (v := (-5 : Int32)) hx hb dX9_join_151 (by decide) ?_
                obtain ⟨rfl, rfl⟩ := dw_s2 h
                exact dw_iret C0 Z hr hlk dX9_join_153
            · have h := dw_ifF c11 h
              refine lv_bipush (v := (-4 : Int32)) hx hb dX9_join_133 (by decide) ?_
              obtain ⟨rfl, rfl⟩ := dw_s2 h
              exact dw_iret C0 Z hr hlk dX9_join_135
          · have h := dw_ifF c10 h
            refine lv_bipush (v := (-3 : Int32)) hx hb dX9_join_108 (by decide) ?_
            obtain ⟨rfl, rfl⟩ := dw_s2 h
            exact dw_iret C0 Z hr hlk dX9_join_110
    · have h := dw_ifT c2 h
      refine lv_iconst (v := (-1 : Int32)) hx hb dX9_join_28 (by decide) ?_
      obtain ⟨rfl, rfl⟩ := dw_s2 h
      exact dw_iret C0 Z hr hlk dX9_join_29
