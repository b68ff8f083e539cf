def sX10_copy_2 (i : Nat) (j : Nat) (x1 : Int32) (μ2 : dw_M) : Option ((Int32 × dw_M) ⊕ ((dw_M))) :=
  if (800 : Int32) ≤ x1 then (
  some (.inr μ2))
  else (
  dw_gd (dw_ok x1 (dw_ln i)) (
  dw_gd (dw_ok x1 (dw_ln j)) (
  dw_nm (dw_st μ2 j x1.toNatClampNeg (μ2.1 i x1.toNatClampNeg)) (fun μ6 =>
  dw_nm (x1 + (1 : Int32)) (fun x7 =>
  some (.inl (x7, μ6)))))))
def fX10_copy (μ : dw_M) (i : Nat) (j : Nat) : Option (dw_M) :=
  dw_bd (dw_wh (fun v => sX10_copy_2 i j v.1 v.2) 1000 ((0 : Int32), μ))
    (fun μ8 => some μ8)
set_option maxHeartbeats 4000000 in
set_option maxRecDepth 100000 in
theorem kX10_copy (l : Launch) (Γ : dw_G) (hj : dw_inj Γ) (μ : dw_M) (i : Nat) (hk_i : dw_kd i = 11) (j : Nat) (hk_j : dw_kd j = 11) {ν : dw_M} (h : fX10_copy μ i j = some ν) : Met l yX10_copy (dw_ws yX10_copy cX10_copy 3 none) (dw_rm 0 0) (dw_P Γ ([.ref (dw_ad Γ i), .ref (dw_ad Γ j)] : List Value) μ) (dw_Qv Γ ν) 0 0 (dw_A Γ) := by
  refine dw_met (own := RX10) rfl rfl (Nat.le_of_ble_eq_true rfl) hj ?_
  intro p e s m below meth c C0 hr hlk Z ls hl
  have hx := C0.1
  have hb := C0.2.1
  have hl : lv_has ls 3 [(0, .ref (dw_ad Γ i)), (1, .ref (dw_ad Γ j))] := hl
  suffices key : ∀ (H : Heap) (locs : List Loc), dw_Z Γ (dw_A Γ) s.heap μ H locs → W p l e (dw_rm 0 0) s m ([.ref (dw_ad Γ i), .ref (dw_ad Γ j)] : List Value).toArray below meth c H locs 0 0 (MQ below (dw_Qv Γ ν) ([.ref (dw_ad Γ i), .ref (dw_ad Γ j)] : List Value).toArray s 0 0 (dw_A Γ)) (F0 m 0 ls []) from key _ _ Z
  clear Z
  intro H locs Z
  unfold fX10_copy at h
  refine lv_iconst (v := (0 : Int32)) hx hb dX10_copy_0 (by decide) ?_
  refine lv_istore_n (lv' := [(2, .int (0 : Int32)), (0, .ref (dw_ad Γ i)), (1, .ref (dw_ad Γ j))]) hx hb dX10_copy_1 rfl hl (by decide) rfl (fun ls hl => ?_)
  obtain ⟨kc2, ekc2, h⟩ := dw_bdK h
  have E2 : ∀ (μ8 : dw_M) (H : Heap) (locs : List Loc) (ls : Array Slot), dw_Z Γ (dw_A Γ) s.heap μ8 H locs → lv_has ls 3 [] → kc2 μ8 = some ν → W p l e (dw_rm 0 0) s m ([.ref (dw_ad Γ i), .ref (dw_ad Γ j)] : List Value).toArray below meth c H locs 0 0 (MQ below (dw_Qv Γ ν) ([.ref (dw_ad Γ i), .ref (dw_ad Γ j)] : List Value).toArray s 0 0 (dw_A Γ)) (F0 m 21 ls []) := by
    intro μ8 H locs ls Z hl h
    rw [ekc2] at h
    dsimp only at h
    obtain rfl := dw_s1 h
    exact dw_vret C0 Z hr hlk dX10_copy_21
  have L2 : ∀ (n2 : Nat) (x1 : Int32) (μ2 : dw_M) (H : Heap) (locs : List Loc) (ls : Array Slot), dw_Z Γ (dw_A Γ) s.heap μ2 H locs → lv_has ls 3 [(0, .ref (dw_ad Γ i)), (1, .ref (dw_ad Γ j)), (2, .int x1)] → dw_bd (dw_wh (fun v => sX10_copy_2 i j v.1 v.2) n2 (x1, μ2)) kc2 = some ν → W p l e (dw_rm 0 0) s m ([.ref (dw_ad Γ i), .ref (dw_ad Γ j)] : List Value).toArray below meth c H locs 0 0 (MQ below (dw_Qv Γ ν) ([.ref (dw_ad Γ i), .ref (dw_ad Γ j)] : List Value).toArray s 0 0 (dw_A Γ)) (F0 m 2 ls []) := by
    clear h
    intro n2
    induction n2 with
    | zero =>
      intro x1 μ2 H locs ls Z hl h
      exact (dw_wh0 h).elim
    | succ n2 ih2 =>
      intro x1 μ2 H locs ls Z hl h
      obtain ⟨q2, hs, hq2⟩ := dw_whB h
      have h : sX10_copy_2 i j x1 μ2 = some q2 := hs
      unfold sX10_copy_2 at h
      refine lv_iload_n hx hb dX10_copy_2 rfl (lv_at hl 2 rfl) ?_
      refine lv_sipush (v := (800 : Int32)) hx hb dX10_copy_3 (by decide) ?_
      refine lv_icmp_ge (tgt := 21) hx hb dX10_copy_6 (by decide) (fun c3 => ?_) (fun c3 => ?_)
      · have h := dw_ifT c3 h
        obtain rfl := dw_s1 h
        exact E2  μ2 H locs ls Z (lv_sub hl [] rfl) hq2
      · have h := dw_ifF c3 h
        refine lv_aload_n hx hb dX10_copy_9 rfl (lv_at hl 1 rfl) ?_
        refine lv_iload_n hx hb dX10_copy_10 rfl (lv_at hl 2 rfl) ?_
        refine lv_aload_n hx hb dX10_copy_11 rfl (lv_at hl 0 rfl) ?_
        refine lv_iload_n hx hb dX10_copy_12 rfl (lv_at hl 2 rfl) ?_
        obtain ⟨g4, h⟩ := dw_gdS h
        refine dw_ald C0 Z hk_i rfl g4 dX10_copy_13 ?_
        obtain ⟨g5, h⟩ := dw_gdS h
        refine dw_ast C0 Z dw_hA hk_j rfl g5 dX10_copy_14 (fun μ6 eμ6 H locs Z => ?_)
        have h := dw_nmS eμ6 h
        obtain ⟨x7, ex7⟩ := dw_eg (x1 + (1 : Int32))
        have h := dw_nmS ex7 h
        refine lv_iinc (v := x7) (lv' := [(2, .int x7), (0, .ref (dw_ad Γ i)), (1, .ref (dw_ad Γ j))]) hx hb dX10_copy_15 hl (k := 2) rfl (by rw [ex7]; rfl) (by decide) rfl (fun ls hl => ?_)
        refine lv_goto (tgt := 2) hx hb dX10_copy_18 (by decide) ?_
        obtain rfl := dw_s1 h
        exact ih2 x7 μ6 H locs ls Z (lv_sub hl [1, 2, 0] rfl) hq2
  exact L2 1000 (0 : Int32) μ H locs ls Z (lv_sub hl [1, 2, 0] rfl) h

def sX10_fits_38 (a1 : Int32) (x5 : Int32) (μ6 : dw_M) : Option ((Int32 × dw_M) ⊕ ((dw_M))) :=
  if a1 ≤ x5 then (
  some (.inr μ6))
  else (
  dw_b2 (fX10_hour μ6) (fun r9 μ10 =>
  dw_nm (x5 + (1 : Int32)) (fun x11 =>
  some (.inl (x11, μ10)))))
def sX10_fits_62 (μ12 : dw_M) (x13 : Int32) (x14 : Int32) : Option ((Int32 × Int32) ⊕ ((Int32))) :=
  if (fX10_places μ12) ≤ x14 then (
  some (.inr x13))
  else (
  if x13 = 0 then (
  dw_nm (x14 + (1 : Int32)) (fun x17 =>
  some (.inl ((0 : Int32), x17))))
  else (
  dw_gd (dw_ok ((100 : Int32) + x14) 800) (
  dw_jm (fun (x19 : Int32) =>
  dw_gd (dw_ok ((260 : Int32) + x14) 800) (
  dw_jm (fun (x21 : Int32) =>
  if x19 = x21 then (
  dw_nm (x14 + (1 : Int32)) (fun x24 =>
  some (.inl ((1 : Int32), x24))))
  else (
  dw_nm (x14 + (1 : Int32)) (fun x23 =>
  some (.inl ((0 : Int32), x23))))) (fun k114 =>
  if (μ12.1 143 ((260 : Int32) + x14).toNatClampNeg) = (1 : Int32) then (
  k114 (1 : Int32))
  else (
  k114 (0 : Int32))))) (fun k94 =>
  if (μ12.1 143 ((100 : Int32) + x14).toNatClampNeg) ≤ 0 then (
  k94 (0 : Int32))
  else (
  k94 (1 : Int32))))))
def fX10_fits (μ : dw_M) (a1 : Int32) (a2 : Int32) (a3 : Int32) : Option (Int32 × dw_M) :=
  dw_bd (fX10_copy μ 143 145) (fun μ2 =>
  dw_jm (fun (μ3 : dw_M) =>
  dw_jm (fun (μ4 : dw_M) =>
  dw_bd (dw_wh (fun v => sX10_fits_38 a1 v.1 v.2) 1000 ((0 : Int32), μ4))
    (fun μ12 => dw_bd (dw_wh (fun v => sX10_fits_62 μ12 v.1 v.2) 1000 ((1 : Int32), (0 : Int32)))
    (fun x27 => dw_bd (fX10_copy μ12 145 143) (fun μ29 =>
  dw_gd (dw_bo x27) (
  some (x27, μ29)))))) (fun k35 =>
  if a3 < 0 then (
  k35 μ3)
  else (
  dw_bd (fX10_setPipe μ3 a3 (8 : Int32) (1 : Int32)) (fun μ33 =>
  k35 μ33)))) (fun k23 =>
  if a2 < 0 then (
  k23 μ2)
  else (
  dw_bd (fX10_setPipe μ2 a2 (8 : Int32) (1 : Int32)) (fun μ36 =>
  k23 μ36))))
set_option maxHeartbeats 4000000 in
set_option maxRecDepth 100000 in
theorem kX10_fits (l : Launch) (Γ : dw_G) (hj : dw_inj Γ) (μ : dw_M) (a1 : Int32) (a2 : Int32) (a3 : Int32) {r : Int32} {ν : dw_M} (h : fX10_fits μ a1 a2 a3 = some (r, ν)) : Met l yX10_fits (dw_ws yX10_fits cX10_fits 6 (some .boolean)) (dw_rm 6 138) (dw_P Γ ([.ref (dw_ad Γ 142), .int a1, .int a2, .int a3] : List Value) μ) (dw_Qi Γ r ν) 0 0 (dw_A Γ) := by
  refine dw_met (own := RX10) rfl rfl (Nat.le_of_ble_eq_true rfl) hj ?_
  intro p e s m below meth c C0 hr hlk Z ls hl
  have hx := C0.1
  have hb := C0.2.1
  have hl : lv_has ls 6 [(0, .ref (dw_ad Γ 142)), (1, .int a1), (2, .int a2), (3, .int a3)] := hl
  suffices key : ∀ (H : Heap) (locs : List Loc), dw_Z Γ (dw_A Γ) s.heap μ H locs → W p l e (dw_rm 6 138) s m ([.ref (dw_ad Γ 142), .int a1, .int a2, .int a3] : List Value).toArray below meth c H locs 0 0 (MQ below (dw_Qi Γ r ν) ([.ref (dw_ad Γ 142), .int a1, .int a2, .int a3] : List Value).toArray s 0 0 (dw_A Γ)) (F0 m 0 ls []) from key _ _ Z
  clear Z
  intro H locs Z
  unfold fX10_fits at h
  refine lv_aload_n hx hb dX10_fits_0 rfl (lv_at hl 0 rfl) ?_
  refine dw_g10_0 (t := 143) C0 Z dw_kc142 tw_fX10_7 rfl dX10_fits_1 ?_
  refine lv_aload_n hx hb dX10_fits_4 rfl (lv_at hl 0 rfl) ?_
  refine dw_g10_2 (t := 145) C0 Z dw_kc142 tw_fX10_16 rfl dX10_fits_5 ?_
  obtain ⟨μ2, hc1, h⟩ := dw_bdS h
  refine dw_cSv C0 Z dw_hA (As := [.ref (dw_ad Γ 143), .ref (dw_ad Γ 145)]) (rest := []) (kX10_copy l Γ hj μ 143 dw_kc143 145 dw_kc145 hc1) (dw_gS tw_lX10_134 tw_sX10_copy tw_iX10 tw_kX10_copy) dw_hX10_copy ⟨Nat.le_of_ble_eq_true rfl, Nat.le_of_ble_eq_true rfl⟩ ⟨Nat.zero_le _, Nat.zero_le _⟩ hl.1 (Nat.le_of_ble_eq_true rfl) rfl dX10_fits_8 (fun H locs Z => ?_)
  refine lv_iload_n hx hb dX10_fits_11 rfl (lv_at hl 2 rfl) ?_
  obtain ⟨k23, ek23, h⟩ := dw_jnS h
  have J23 : ∀ (μ3 : dw_M) (H : Heap) (locs : List Loc) (ls : Array Slot), dw_Z Γ (dw_A Γ) s.heap μ3 H locs → lv_has ls 6 [(0, .ref (dw_ad Γ 142)), (1, .int a1), (3, .int a3)] → k23 μ3 = some (r, ν) → W p l e (dw_rm 6 138) s m ([.ref (dw_ad Γ 142), .int a1, .int a2, .int a3] : List Value).toArray below meth c H locs 0 0 (MQ below (dw_Qi Γ r ν) ([.ref (dw_ad Γ 142), .int a1, .int a2, .int a3] : List Value).toArray s 0 0 (dw_A Γ)) (F0 m 23 ls []) := by
    clear h
    intro μ3 H locs ls Z hl h
    rw [ek23] at h
    dsimp only at h
    refine lv_iload_n hx hb dX10_fits_23 rfl (lv_at hl 2 rfl) ?_
    obtain ⟨k35, ek35, h⟩ := dw_jnS h
    have J35 : ∀ (μ4 : dw_M) (H : Heap) (locs : List Loc) (ls : Array Slot), dw_Z Γ (dw_A Γ) s.heap μ4 H locs → lv_has ls 6 [(0, .ref (dw_ad Γ 142)), (1, .int a1)] → k35 μ4 = some (r, ν) → W p l e (dw_rm 6 138) s m ([.ref (dw_ad Γ 142), .int a1, .int a2, .int a3] : List Value).toArray below meth c H locs 0 0 (MQ below (dw_Qi Γ r ν) ([.ref (dw_ad Γ 142), .int a1, .int a2, .int a3] : List Value).toArray s 0 0 (dw_A Γ)) (F0 m 35 ls []) := by
      clear h
      intro μ4 H locs ls Z hl h
      rw [ek35] at h
      dsimp only at h
      refine lv_iconst (v := (0 : Int32)) hx hb dX10_fits_35 (by decide) ?_
      refine lv_istore (lv' := [(4, .int (0 : Int32)), (0, .ref (dw_ad Γ 142)), (1, .int a1)]) hx hb dX10_fits_36 hl (by decide) rfl (fun ls hl => ?_)
      obtain ⟨kc38, ekc38, h⟩ := dw_bdK h
      have E38 : ∀ (μ12 : dw_M) (H : Heap) (locs : List Loc) (ls : Array Slot), dw_Z Γ (dw_A Γ) s.heap μ12 H locs → lv_has ls 6 [(0, .ref (dw_ad Γ 142))] → kc38 μ12 = some (r, ν) → W p l e (dw_rm 6 138) s m ([.ref (dw_ad Γ 142), .int a1, .int a2, .int a3] : List Value).toArray below meth c H locs 0 0 (MQ below (dw_Qi Γ r ν) ([.ref (dw_ad Γ 142), .int a1, .int a2, .int a3] : List Value).toArray s 0 0 (dw_A Γ)) (F0 m 56 ls []) := by
        intro μ12 H locs ls Z hl h
        rw [ekc38] at h
        dsimp only at h
        refine lv_iconst (v := (1 : Int32)) hx hb dX10_fits_56 (by decide) ?_
        refine lv_istore (lv' := [(4, .int (1 : Int32)), (0, .ref (dw_ad Γ 142))]) hx hb dX10_fits_57 hl (by decide) rfl (fun ls hl => ?_)
        refine lv_iconst (v := (0 : Int32)) hx hb dX10_fits_59 (by decide) ?_
        refine lv_istore (lv' := [(5, .int (0 : Int32)), (4, .int (1 : Int32)), (0, .ref (dw_ad Γ 142))]) hx hb dX10_fits_60 hl (by decide) rfl (fun ls hl => ?_)
        obtain ⟨kc62, ekc62, h⟩ := dw_bdK h
        have E62 : ∀ (x27 : Int32) (H : Heap) (locs : List Loc) (ls : Array Slot), dw_Z Γ (dw_A Γ) s.heap μ12 H locs → lv_has ls 6 [(0, .ref (dw_ad Γ 142)), (4, .int x27)] → kc62 x27 = some (r, ν) → W p l e (dw_rm 6 138) s m ([.ref (dw_ad Γ 142), .int a1, .int a2, .int a3] : List Value).toArray below meth c H locs 0 0 (MQ below (dw_Qi Γ r ν) ([.ref (dw_ad Γ 142), .int a1, .int a2, .int a3] : List Value).toArray s 0 0 (dw_A Γ)) (F0 m 130 ls []) := by
          intro x27 H locs ls Z hl h
          rw [ekc62] at h
          dsimp only at h
          refine lv_aload_n hx hb dX10_fits_130 rfl (lv_at hl 0 rfl) ?_
          refine dw_g10_2 (t := 145) C0 Z dw_kc142 tw_fX10_16 rfl dX10_fits_131 ?_
          refine lv_aload_n hx hb dX10_fits_134 rfl (lv_at hl 0 rfl) ?_
          refine dw_g10_0 (t := 143) C0 Z dw_kc142 tw_fX10_7 rfl dX10_fits_135 ?_
          obtain ⟨μ29, hc28, h⟩ := dw_bdS h
          refine dw_cSv C0 Z dw_hA (As := [.ref (dw_ad Γ 145), .ref (dw_ad Γ 143)]) (rest := []) (kX10_copy l Γ hj μ12 145 dw_kc145 143 dw_kc143 hc28) (dw_gS tw_lX10_134 tw_sX10_copy tw_iX10 tw_kX10_copy) dw_hX10_copy ⟨Nat.le_of_ble_eq_true rfl, Nat.le_of_ble_eq_true rfl⟩ ⟨Nat.zero_le _, Nat.zero_le _⟩ hl.1 (Nat.le_of_ble_eq_true rfl) rfl dX10_fits_138 (fun H locs Z => ?_)
          refine lv_iload hx hb dX10_fits_141 (lv_at hl 1 rfl) ?_
          obtain ⟨g30, h⟩ := dw_gdS h
          obtain ⟨rfl, rfl⟩ := dw_s2 h
          exact dw_zret C0 Z hr hlk (dw_boN g30) dX10_fits_143
        have L62 : ∀ (n62 : Nat) (x13 : Int32) (x14 : Int32) (H : Heap) (locs : List Loc) (ls : Array Slot), dw_Z Γ (dw_A Γ) s.heap μ12 H locs → lv_has ls 6 [(0, .ref (dw_ad Γ 142)), (4, .int x13), (5, .int x14)] → dw_bd (dw_wh (fun v => sX10_fits_62 μ12 v.1 v.2) n62 (x13, x14)) kc62 = some (r, ν) → W p l e (dw_rm 6 138) s m ([.ref (dw_ad Γ 142), .int a1, .int a2, .int a3] : List Value).toArray below meth c H locs 0 0 (MQ below (dw_Qi Γ r ν) ([.ref (dw_ad Γ 142), .int a1, .int a2, .int a3] : List Value).toArray s 0 0 (dw_A Γ)) (F0 m 62 ls []) := by
          clear h
          intro n62
          induction n62 with
          | zero =>
            intro x13 x14 H locs ls Z hl h
            exact (dw_wh0 h).elim
          | succ n62 ih62 =>
            intro x13 x14 H locs ls Z hl h
            obtain ⟨q62, hs, hq62⟩ := dw_whB h
            have h : sX10_fits_62 μ12 x13 x14 = some q62 := hs
            unfold sX10_fits_62 at h
            refine lv_iload hx hb dX10_fits_62 (lv_at hl 2 rfl) ?_
            refine lv_aload_n hx hb dX10_fits_64 rfl (lv_at hl 0 rfl) ?_
            refine dw_cVi C0 Z dw_hA (dw_lt dw_kc142 (by decide)) (dw_cz10 dw_kc142) rfl (As := []) (rest := [.int x14]) (kX10_places l Γ hj μ12 rfl) (dw_gV tw_lX10_25 tw_vX10_places tw_eX10_places tw_iX10 tw_kX10_places) dw_hX10_places ⟨Nat.le_of_ble_eq_true rfl, Nat.le_of_ble_eq_true rfl⟩ ⟨Nat.zero_le _, Nat.zero_le _⟩ hl.1 (Nat.le_of_ble_eq_true rfl) rfl dX10_fits_65 (fun H locs Z => ?_)
            refine lv_icmp_ge (tgt := 130) hx hb dX10_fits_68 (by decide) (fun c15 => ?_) (fun c15 => ?_)
            · have h := dw_ifT c15 h
              obtain rfl := dw_s1 h
              exact E62 x13 H locs ls Z (lv_sub hl [0, 1] rfl) hq62
            · have h := dw_ifF c15 h
              refine lv_iload hx hb dX10_fits_71 (lv_at hl 1 rfl) ?_
              refine lv_if_eq (tgt := 121) hx hb dX10_fits_73 (by decide) (fun c16 => ?_) (fun c16 => ?_)
              · have h := dw_ifT c16 h
                refine lv_iconst (v := (0 : Int32)) hx hb dX10_fits_121 (by decide) ?_
                refine lv_istore (lv' := [(4, .int (0 : Int32)), (0, .ref (dw_ad Γ 142)), (5, .int x14)]) hx hb dX10_fits_122 hl (by decide) rfl (fun ls hl => ?_)
                obtain ⟨x17, ex17⟩ := dw_eg (x14 + (1 : Int32))
                have h := dw_nmS ex17 h
                refine lv_iinc (v := x17) (lv' := [(5, .int x17), (4, .int (0 : Int32)), (0, .ref (dw_ad Γ 142))]) hx hb dX10_fits_124 hl (k := 2) rfl (by rw [ex17]; rfl) (by decide) rfl (fun ls hl => ?_)
                refine lv_goto (tgt := 62) hx hb dX10_fits_127 (by decide) ?_
                obtain rfl := dw_s1 h
                exact ih62 (0 : Int32) x17 H locs ls Z (lv_sub hl [2, 1, 0] rfl) hq62
              · have h := dw_ifF c16 h
                refine lv_aload_n hx hb dX10_fits_76 rfl (lv_at hl 0 rfl) ?_
                refine dw_g10_0 (t := 143) C0 Z dw_kc142 tw_fX10_7 rfl dX10_fits_77 ?_
                refine lv_bipush (v := (100 : Int32)) hx hb dX10_fits_80 (by decide) ?_
                refine lv_iload hx hb dX10_fits_82 (lv_at hl 2 rfl) ?_
                refine lv_iadd hx hb dX10_fits_84 ?_
                obtain ⟨g18, h⟩ := dw_gdS h
                refine dw_ald C0 Z dw_kc143 dw_lc143 g18 dX10_fits_85 ?_
                obtain ⟨k94, ek94, h⟩ := dw_jnS h
                have J94 : ∀ (x19 : Int32) (H : Heap) (locs : List Loc) (ls : Array Slot), dw_Z Γ (dw_A Γ) s.heap μ12 H locs → lv_has ls 6 [(0, .ref (dw_ad Γ 142)), (5, .int x14)] → k94 x19 = some q62 → W p l e (dw_rm 6 138) s m ([.ref (dw_ad Γ 142), .int a1, .int a2, .int a3] : List Value).toArray below meth c H locs 0 0 (MQ below (dw_Qi Γ r ν) ([.ref (dw_ad Γ 142), .int a1, .int a2, .int a3] : List Value).toArray s 0 0 (dw_A Γ)) (F0 m 94 ls [.int x19]) := by
                  clear h
                  intro x19 H locs ls Z hl h
                  rw [ek94] at h
                  dsimp only at h
                  refine lv_aload_n hx hb dX10_fits_94 rfl (lv_at hl 0 rfl) ?_
                  refine dw_g10_0 (t := 143) C0 Z dw_kc142 tw_fX10_7 rfl dX10_fits_95 ?_
                  refine lv_sipush (v := (260 : Int32)) hx hb dX10_fits_98 (by decide) ?_
                  refine lv_iload hx hb dX10_fits_101 (lv_at hl 1 rfl) ?_
                  refine lv_iadd hx hb dX10_fits_103 ?_
                  obtain ⟨g20, h⟩ := dw_gdS h
                  refine dw_ald C0 Z dw_kc143 dw_lc143 g20 dX10_fits_104 ?_
                  refine lv_iconst (v := (1 : Int32)) hx hb dX10_fits_105 (by decide) ?_
                  obtain ⟨k114, ek114, h⟩ := dw_jnS h
                  have J114 : ∀ (x21 : Int32) (H : Heap) (locs : List Loc) (ls : Array Slot), dw_Z Γ (dw_A Γ) s.heap μ12 H locs → lv_has ls 6 [(0, .ref (dw_ad Γ 142)), (5, .int x14)] → k114 x21 = some q62 → W p l e (dw_rm 6 138) s m ([.ref (dw_ad Γ 142), .int a1, .int a2, .int a3] : List Value).toArray below meth c H locs 0 0 (MQ below (dw_Qi Γ r ν) ([.ref (dw_ad Γ 142), .int a1, .int a2, .int a3] : List Value).toArray s 0 0 (dw_A Γ)) (F0 m 114 ls [.int x21, .int x19]) := by
                    clear h
                    intro x21 H locs ls Z hl h
                    rw [ek114] at h
                    dsimp only at h
                    refine lv_icmp_ne (tgt := 121) hx hb dX10_fits_114 (by decide) (fun c22 => ?_) (fun c22 => ?_)
                    · have h := dw_ifF c22 h
                      refine lv_iconst (v := (0 : Int32)) hx hb dX10_fits_121 (by decide) ?_
                      refine lv_istore (lv' := [(4, .int (0 : Int32)), (0, .ref (dw_ad Γ 142)), (5, .int x14)]) hx hb dX10_fits_122 hl (by decide) rfl (fun ls hl => ?_)
                      obtain ⟨x23, ex23⟩ := dw_eg (x14 + (1 : Int32))
                      have h := dw_nmS ex23 h
                      refine lv_iinc (v := x23) (lv' := [(5, .int x23), (4, .int (0 : Int32)), (0, .ref (dw_ad Γ 142))]) hx hb dX10_fits_124 hl (k := 2) rfl (by rw [ex23]; rfl) (by decide) rfl (fun ls hl => ?_)
                      refine lv_goto (tgt := 62) hx hb dX10_fits_127 (by decide) ?_
                      obtain rfl := dw_s1 h
                      exact ih62 (0 : Int32) x23 H locs ls Z (lv_sub hl [2, 1, 0] rfl) hq62
                    · have h := dw_ifT c22 h
                      refine lv_iconst (v := (1 : Int32)) hx hb dX10_fits_117 (by decide) ?_
                      refine lv_goto (tgt := 122) hx hb dX10_fits_118 (by decide) ?_
                      refine lv_istore (lv' := [(4, .int (1 : Int32)), (0, .ref (dw_ad Γ 142)), (5, .int x14)]) hx hb dX10_fits_122 hl (by decide) rfl (fun ls hl => ?_)
                      obtain ⟨x24, ex24⟩ := dw_eg (x14 + (1 : Int32))
                      have h := dw_nmS ex24 h
                      refine lv_iinc (v := x24) (lv' := [(5, .int x24), (4, .int (1 : Int32)), (0, .ref (dw_ad Γ 142))]) hx hb dX10_fits_124 hl (k := 2) rfl (by rw [ex24]; rfl) (by decide) rfl (fun ls hl => ?_)
                      refine lv_goto (tgt := 62) hx hb dX10_fits_127 (by decide) ?_
                      obtain rfl := dw_s1 h
                      exact ih62 (1 : Int32) x24 H locs ls Z (lv_sub hl [2, 1, 0] rfl) hq62
                  refine lv_icmp_ne (tgt := 113) hx hb dX10_fits_106 (by decide) (fun c25 => ?_) (fun c25 => ?_)
                  · have h := dw_ifF c25 h
                    refine lv_iconst (v := (0 : Int32)) hx hb dX10_fits_113 (by decide) ?_
                    exact J114 (0 : Int32) H locs ls Z (lv_sub hl [0, 1] rfl) h
                  · have h := dw_ifT c25 h
                    refine lv_iconst (v := (1 : Int32)) hx hb dX10_fits_109 (by decide) ?_
                    refine lv_goto (tgt := 114) hx hb dX10_fits_110 (by decide) ?_
                    exact J114 (1 : Int32) H locs ls Z (lv_sub hl [0, 1] rfl) h
                refine lv_if_le (tgt := 93) hx hb dX10_fits_86 (by decide) (fun c26 => ?_) (fun c26 => ?_)
                · have h := dw_ifT c26 h
                  refine lv_iconst (v := (0 : Int32)) hx hb dX10_fits_93 (by decide) ?_
                  exact J94 (0 : Int32) H locs ls Z (lv_sub hl [0, 2] rfl) h
                · have h := dw_ifF c26 h
                  refine lv_iconst (v := (1 : Int32)) hx hb dX10_fits_89 (by decide) ?_
                  refine lv_goto (tgt := 94) hx hb dX10_fits_90 (by decide) ?_
                  exact J94 (1 : Int32) H locs ls Z (lv_sub hl [0, 2] rfl) h
        exact L62 1000 (1 : Int32) (0 : Int32) H locs ls Z (lv_sub hl [2, 1, 0] rfl) h
      have L38 : ∀ (n38 : Nat) (x5 : Int32) (μ6 : dw_M) (H : Heap) (locs : List Loc) (ls : Array Slot), dw_Z Γ (dw_A Γ) s.heap μ6 H locs → lv_has ls 6 [(0, .ref (dw_ad Γ 142)), (1, .int a1), (4, .int x5)] → dw_bd (dw_wh (fun v => sX10_fits_38 a1 v.1 v.2) n38 (x5, μ6)) kc38 = some (r, ν) → W p l e (dw_rm 6 138) s m ([.ref (dw_ad Γ 142), .int a1, .int a2, .int a3] : List Value).toArray below meth c H locs 0 0 (MQ below (dw_Qi Γ r ν) ([.ref (dw_ad Γ 142), .int a1, .int a2, .int a3] : List Value).toArray s 0 0 (dw_A Γ)) (F0 m 38 ls []) := by
        clear h
        intro n38
        induction n38 with
        | zero =>
          intro x5 μ6 H locs ls Z hl h
          exact (dw_wh0 h).elim
        | succ n38 ih38 =>
          intro x5 μ6 H locs ls Z hl h
          obtain ⟨q38, hs, hq38⟩ := dw_whB h
          have h : sX10_fits_38 a1 x5 μ6 = some q38 := hs
          unfold sX10_fits_38 at h
          refine lv_iload hx hb dX10_fits_38 (lv_at hl 2 rfl) ?_
          refine lv_iload_n hx hb dX10_fits_40 rfl (lv_at hl 1 rfl) ?_
          refine lv_icmp_ge (tgt := 56) hx hb dX10_fits_41 (by decide) (fun c7 => ?_) (fun c7 => ?_)
          · have h := dw_ifT c7 h
            obtain rfl := dw_s1 h
            exact E38  μ6 H locs ls Z (lv_sub hl [0] rfl) hq38
          · have h := dw_ifF c7 h
            refine lv_aload_n hx hb dX10_fits_44 rfl (lv_at hl 0 rfl) ?_
            obtain ⟨r9, μ10, hc8, h⟩ := dw_b2S h
            refine dw_cVi C0 Z dw_hA (dw_lt dw_kc142 (by decide)) (dw_cz10 dw_kc142) rfl (As := []) (rest := []) (kX10_hour l Γ hj μ6 hc8) (dw_gV tw_lX10_101 tw_vX10_hour tw_eX10_hour tw_iX10 tw_kX10_hour) dw_hX10_hour ⟨Nat.le_of_ble_eq_true rfl, Nat.le_of_ble_eq_true rfl⟩ ⟨Nat.zero_le _, Nat.zero_le _⟩ hl.1 (Nat.le_of_ble_eq_true rfl) rfl dX10_fits_45 (fun H locs Z => ?_)
            refine lv_istore (lv' := [(5, .int r9), (0, .ref (dw_ad Γ 142)), (1, .int a1), (4, .int x5)]) hx hb dX10_fits_48 hl (by decide) rfl (fun ls hl => ?_)
            obtain ⟨x11, ex11⟩ := dw_eg (x5 + (1 : Int32))
            have h := dw_nmS ex11 h
            refine lv_iinc (v := x11) (lv' := [(4, .int x11), (5, .int r9), (0, .ref (dw_ad Γ 142)), (1, .int a1)]) hx hb dX10_fits_50 hl (k := 3) rfl (by rw [ex11]; rfl) (by decide) rfl (fun ls hl => ?_)
            refine lv_goto (tgt := 38) hx hb dX10_fits_53 (by decide) ?_
            obtain rfl := dw_s1 h
            exact ih38 x11 μ10 H locs ls Z (lv_sub hl [2, 3, 0] rfl) hq38
      exact L38 1000 (0 : Int32) μ4 H locs ls Z (lv_sub hl [1, 2, 0] rfl) h
    refine lv_if_lt (tgt := 35) hx hb dX10_fits_24 (by decide) (fun c31 => ?_) (fun c31 => ?_)
    · have h := dw_ifT c31 h
      exact J35 μ3 H locs ls Z (lv_sub hl [0, 1] rfl) h
    · have h := dw_ifF c31 h
      refine lv_aload_n hx hb dX10_fits_27 rfl (lv_at hl 0 rfl) ?_
      refine lv_iload_n hx hb dX10_fits_28 rfl (lv_at hl 2 rfl) ?_
      refine lv_bipush (v := (8 : Int32)) hx hb dX10_fits_29 (by decide) ?_
      refine lv_iconst (v := (1 : Int32)) hx hb dX10_fits_31 (by decide) ?_
      obtain ⟨μ33, hc32, h⟩ := dw_bdS h
      refine dw_cVv C0 Z dw_hA (dw_lt dw_kc142 (by decide)) (dw_cz10 dw_kc142) rfl (As := [.int a3, .int (8 : Int32), .int (1 : Int32)]) (rest := []) (kX10_setPipe l Γ hj μ3 a3 (8 : Int32) (1 : Int32) hc32) (dw_gV tw_lX10_51 tw_vX10_setPipe tw_eX10_setPipe tw_iX10 tw_kX10_setPipe) dw_hX10_setPipe ⟨Nat.le_of_ble_eq_true rfl, Nat.le_of_ble_eq_true rfl⟩ ⟨Nat.zero_le _, Nat.zero_le _⟩ hl.1 (Nat.le_of_ble_eq_true rfl) rfl dX10_fits_32 (fun H locs Z => ?_)
      exact J35 μ33 H locs ls Z (lv_sub hl [0, 1] rfl) h
  refine lv_if_lt (tgt := 23) hx hb dX10_fits_12 (by decide) (fun c34 => ?_) (fun c34 => ?_)
  · have h := dw_ifT c34 h
    exact J23 μ2 H locs ls Z (lv_sub hl [0, 1, 3] rfl) h
  · have h := dw_ifF c34 h
    refine lv_aload_n hx hb dX10_fits_15 rfl (lv_at hl 0 rfl) ?_
    refine lv_iload_n hx hb dX10_fits_16 rfl (lv_at hl 2 rfl) ?_
    refine lv_bipush (v := (8 : Int32)) hx hb dX10_fits_17 (by decide) ?_
    refine lv_iconst (v := (1 : Int32)) hx hb dX10_fits_19 (by decide) ?_
    obtain ⟨μ36, hc35, h⟩ := dw_bdS h
    refine dw_cVv C0 Z dw_hA (dw_lt dw_kc142 (by decide)) (dw_cz10 dw_kc142) rfl (As := [.int a2, .int (8 : Int32), .int (1 : Int32)]) (rest := []) (kX10_setPipe l Γ hj μ2 a2 (8 : Int32) (1 : Int32) hc35) (dw_gV tw_lX10_51 tw_vX10_setPipe tw_eX10_setPipe tw_iX10 tw_kX10_setPipe) dw_hX10_setPipe ⟨Nat.le_of_ble_eq_true rfl, Nat.le_of_ble_eq_true rfl⟩ ⟨Nat.zero_le _, Nat.zero_le _⟩ hl.1 (Nat.le_of_ble_eq_true rfl) rfl dX10_fits_20 (fun H locs Z => ?_)
    exact J23 μ36 H locs ls Z (lv_sub hl [0, 1, 3] rfl) h

def sX10_where_42 (a1 : Int32) (x7 : Int32) (x8 : Int32) (μ9 : dw_M) : Option ((Int32 × Int32 × dw_M) ⊕ ((Int32 × dw_M) ⊕ (Int32 × dw_M))) :=
  if (μ9.1 143 (13 : Int32).toNatClampNeg) ≤ x8 then (
  some (.inr (.inl (x7, μ9))))
  else (
  dw_bd (fX10_pipeOf μ9 x8 (8 : Int32)) (fun r12 =>
  if r12 = 0 then (
  dw_b2 (fX10_fits μ9 a1 x8 (-1 : Int32)) (fun r16 μ17 =>
  if r16 = 0 then (
  dw_nm (x8 + (1 : Int32)) (fun x19 =>
  some (.inl (x7, x19, μ17))))
  else (
  if x7 = 0 then (
  some (.inr (.inr (x8, μ17))))
  else (
  dw_nm (x7 + (-1 : Int32)) (fun x21 =>
  dw_nm (x8 + (1 : Int32)) (fun x22 =>
  some (.inl (x21, x22, μ17))))))))
  else (
  dw_nm (x8 + (1 : Int32)) (fun x14 =>
  some (.inl (x7, x14, μ9))))))
def sX10_where_113 (a1 : Int32) (x26 : Int32) (x30 : Int32) (x31 : Int32) (μ32 : dw_M) : Option ((Int32 × Int32 × dw_M) ⊕ ((Int32 × dw_M) ⊕ (Int32 × dw_M))) :=
  if (μ32.1 143 (13 : Int32).toNatClampNeg) ≤ x31 then (
  some (.inr (.inl (x30, μ32))))
  else (
  dw_bd (fX10_pipeOf μ32 x26 (8 : Int32)) (fun r35 =>
  if r35 = 0 then (
  dw_bd (fX10_pipeOf μ32 x31 (8 : Int32)) (fun r39 =>
  if r39 = 0 then (
  dw_b2 (fX10_fits μ32 a1 x26 x31) (fun r43 μ44 =>
  if r43 = 0 then (
  dw_nm (x31 + (1 : Int32)) (fun x46 =>
  some (.inl (x30, x46, μ44))))
  else (
  if x30 = 0 then (
  some (.inr (.inr ((((100 : Int32) * (x26 + (1 : Int32))) + x31), μ44))))
  else (
  dw_nm (x30 + (-1 : Int32)) (fun x48 =>
  dw_nm (x31 + (1 : Int32)) (fun x49 =>
  some (.inl (x48, x49, μ44))))))))
  else (
  dw_nm (x31 + (1 : Int32)) (fun x41 =>
  some (.inl (x30, x41, μ32))))))
  else (
  dw_nm (x31 + (1 : Int32)) (fun x37 =>
  some (.inl (x30, x37, μ32))))))
def sX10_where_95 (a1 : Int32) (x25 : Int32) (x26 : Int32) (μ27 : dw_M) : Option ((Int32 × Int32 × dw_M) ⊕ ((dw_M) ⊕ (Int32 × dw_M))) :=
  if (μ27.1 143 (13 : Int32).toNatClampNeg) ≤ x26 then (
  some (.inr (.inl μ27)))
  else (
  dw_nm (x26 + (1 : Int32)) (fun x29 =>
  dw_bd (dw_wh (fun v => sX10_where_113 a1 x26 v.1 v.2.1 v.2.2) 1000 (x25, x29, μ27))
    (Sum.elim (fun v => (fun x50 μ51 => dw_nm (x26 + (1 : Int32)) (fun x52 =>
  some (.inl (x50, x52, μ51)))) v.1 v.2) (fun r => some (.inr (.inr r))))))
def fX10_where (μ : dw_M) (a1 : Int32) (a2 : Int32) : Option (Int32 × dw_M) :=
  if (fX10_in a1 (1 : Int32) (20 : Int32)) = 0 then (
  some ((-1 : Int32), μ))
  else (
  if 0 ≤ a2 then (
  dw_b2 (fX10_fits μ a1 (-1 : Int32) (-1 : Int32)) (fun r4 μ5 =>
  dw_jm (fun (x6 : Int32) =>
  dw_bd (dw_wh (fun v => sX10_where_42 a1 v.1 v.2.1 v.2.2) 1000 (x6, (0 : Int32), μ5))
    (Sum.elim (fun v => (fun x23 μ24 => dw_bd (dw_wh (fun v => sX10_where_95 a1 v.1 v.2.1 v.2.2) 1000 (x23, (0 : Int32), μ24))
    (Sum.elim (fun μ53 => some ((-6 : Int32), μ53)) (fun r => some r))) v.1 v.2) (fun r => some r))) (fun k39 =>
  if r4 = 0 then (
  k39 a2)
  else (
  if a2 = 0 then (
  some ((9999 : Int32), μ5))
  else (
  dw_nm (a2 + (-1 : Int32)) (fun x56 =>
  k39 x56))))))
  else (
  some ((-1 : Int32), μ)))
set_option maxHeartbeats 4000000 in
set_option maxRecDepth 100000 in
theorem kX10_where (l : Launch) (Γ : dw_G) (hj : dw_inj Γ) (μ : dw_M) (a1 : Int32) (a2 : Int32) {r : Int32} {ν : dw_M} (h : fX10_where μ a1 a2 = some (r, ν)) : Met l yX10_where (dw_ws yX10_where cX10_where 6 (some .int)) (dw_rm 7 163) (dw_P Γ ([.ref (dw_ad Γ 142), .int a1, .int a2] : List Value) μ) (dw_Qi Γ r ν) 0 0 (dw_A Γ) := by
  refine dw_met (own := RX10) rfl rfl (Nat.le_of_ble_eq_true rfl) hj ?_
  intro p e s m below meth c C0 hr hlk Z ls hl
  have hx := C0.1
  have hb := C0.2.1
  have hl : lv_has ls 6 [(0, .ref (dw_ad Γ 142)), (1, .int a1), (2, .int a2)] := hl
  suffices key : ∀ (H : Heap) (locs : List Loc), dw_Z Γ (dw_A Γ) s.heap μ H locs → W p l e (dw_rm 7 163) s m ([.ref (dw_ad Γ 142), .int a1, .int a2] : List Value).toArray below meth c H locs 0 0 (MQ below (dw_Qi Γ r ν) ([.ref (dw_ad Γ 142), .int a1, .int a2] : List Value).toArray s 0 0 (dw_A Γ)) (F0 m 0 ls []) from key _ _ Z
  clear Z
  intro H locs Z
  unfold fX10_where at h
  refine lv_iload_n hx hb dX10_where_0 rfl (lv_at hl 1 rfl) ?_
  refine lv_iconst (v := (1 : Int32)) hx hb dX10_where_1 (by decide) ?_
  refine lv_bipush (v := (20 : Int32)) hx hb dX10_where_2 (by decide) ?_
  refine dw_cSi C0 Z dw_hA (As := [.int a1, .int (1 : Int32), .int (20 : Int32)]) (rest := []) (kX10_in l Γ hj μ a1 (1 : Int32) (20 : Int32) rfl) (dw_gS tw_lX10_29 tw_sX10_in tw_iX10 tw_kX10_in) dw_hX10_in ⟨Nat.le_of_ble_eq_true rfl, Nat.le_of_ble_eq_true rfl⟩ ⟨Nat.zero_le _, Nat.zero_le _⟩ hl.1 (Nat.le_of_ble_eq_true rfl) rfl dX10_where_4 (fun H locs Z => ?_)
  refine lv_if_eq (tgt := 14) hx hb dX10_where_7 (by decide) (fun c1 => ?_) (fun c1 => ?_)
  · have h := dw_ifT c1 h
    refine lv_iconst (v := (-1 : Int32)) hx hb dX10_where_14 (by decide) ?_
    obtain ⟨rfl, rfl⟩ := dw_s2 h
    exact dw_iret C0 Z hr hlk dX10_where_15
  · have h := dw_ifF c1 h
    refine lv_iload_n hx hb dX10_where_10 rfl (lv_at hl 2 rfl) ?_
    refine lv_if_ge (tgt := 16) hx hb dX10_where_11 (by decide) (fun c2 => ?_) (fun c2 => ?_)
    · have h := dw_ifT c2 h
      refine lv_iload_n hx hb dX10_where_16 rfl (lv_at hl 2 rfl) ?_
      refine lv_istore_n (lv' := [(3, .int a2), (0, .ref (dw_ad Γ 142)), (1, .int a1), (2, .int a2)]) hx hb dX10_where_17 rfl hl (by decide) rfl (fun ls hl => ?_)
      refine lv_aload_n hx hb dX10_where_18 rfl (lv_at hl 1 rfl) ?_
      refine lv_iload_n hx hb dX10_where_19 rfl (lv_at hl 2 rfl) ?_
      refine lv_iconst (v := (-1 : Int32)) hx hb dX10_where_20 (by decide) ?_
      refine lv_iconst (v := (-1 : Int32)) hx hb dX10_where_21 (by decide) ?_
      obtain ⟨r4, μ5, hc3, h⟩ := dw_b2S h
      refine dw_cVi C0 Z dw_hA (dw_lt dw_kc142 (by decide)) (dw_cz10 dw_kc142) rfl (As := [.int a1, .int (-1 : Int32), .int (-1 : Int32)]) (rest := []) (kX10_fits l Γ hj μ a1 (-1 : Int32) (-1 : Int32) hc3) (dw_gV tw_lX10_138 tw_vX10_fits tw_eX10_fits tw_iX10 tw_kX10_fits) dw_hX10_fits ⟨Nat.le_of_ble_eq_true rfl, Nat.le_of_ble_eq_true rfl⟩ ⟨Nat.zero_le _, Nat.zero_le _⟩ hl.1 (Nat.le_of_ble_eq_true rfl) rfl dX10_where_22 (fun H locs Z => ?_)
      obtain ⟨k39, ek39, h⟩ := dw_jnS h
      have J39 : ∀ (x6 : Int32) (H : Heap) (locs : List Loc) (ls : Array Slot), dw_Z Γ (dw_A Γ) s.heap μ5 H locs → lv_has ls 6 [(0, .ref (dw_ad Γ 142)), (1, .int a1), (3, .int x6)] → k39 x6 = some (r, ν) → W p l e (dw_rm 7 163) s m ([.ref (dw_ad Γ 142), .int a1, .int a2] : List Value).toArray below meth c H locs 0 0 (MQ below (dw_Qi Γ r ν) ([.ref (dw_ad Γ 142), .int a1, .int a2] : List Value).toArray s 0 0 (dw_A Γ)) (F0 m 39 ls []) := by
        clear h
        intro x6 H locs ls Z hl h
        rw [ek39] at h
        dsimp only at h
        refine lv_iconst (v := (0 : Int32)) hx hb dX10_where_39 (by decide) ?_
        refine lv_istore (lv' := [(4, .int (0 : Int32)), (0, .ref (dw_ad Γ 142)), (1, .int a1), (3, .int x6)]) hx hb dX10_where_40 hl (by decide) rfl (fun ls hl => ?_)
        obtain ⟨kc42, ekc42, h⟩ := dw_bdK h
        have E42 : ∀ (x23 : Int32) (μ24 : dw_M) (H : Heap) (locs : List Loc) (ls : Array Slot), dw_Z Γ (dw_A Γ) s.heap μ24 H locs → lv_has ls 6 [(0, .ref (dw_ad Γ 142)), (1, .int a1), (3, .int x23)] → kc42 (.inl (x23, μ24)) = some (r, ν) → W p l e (dw_rm 7 163) s m ([.ref (dw_ad Γ 142), .int a1, .int a2] : List Value).toArray below meth c H locs 0 0 (MQ below (dw_Qi Γ r ν) ([.ref (dw_ad Γ 142), .int a1, .int a2] : List Value).toArray s 0 0 (dw_A Γ)) (F0 m 92 ls []) := by
          intro x23 μ24 H locs ls Z hl h
          rw [ekc42] at h
          dsimp only [Sum.elim] at h
          refine lv_iconst (v := (0 : Int32)) hx hb dX10_where_92 (by decide) ?_
          refine lv_istore (lv' := [(4, .int (0 : Int32)), (0, .ref (dw_ad Γ 142)), (1, .int a1), (3, .int x23)]) hx hb dX10_where_93 hl (by decide) rfl (fun ls hl => ?_)
          obtain ⟨kc95, ekc95, h⟩ := dw_bdK h
          have E95 : ∀ (μ53 : dw_M) (H : Heap) (locs : List Loc) (ls : Array Slot), dw_Z Γ (dw_A Γ) s.heap μ53 H locs → lv_has ls 6 [] → kc95 (.inl μ53) = some (r, ν) → W p l e (dw_rm 7 163) s m ([.ref (dw_ad Γ 142), .int a1, .int a2] : List Value).toArray below meth c H locs 0 0 (MQ below (dw_Qi Γ r ν) ([.ref (dw_ad Γ 142), .int a1, .int a2] : List Value).toArray s 0 0 (dw_A Γ)) (F0 m 189 ls []) := by
            intro μ53 H locs ls Z hl h
            rw [ekc95] at h
            dsimp only [Sum.elim] at h
            refine lv_bipush (v := (-6 : Int32)) hx hb dX10_where_189 (by decide) ?_
            obtain ⟨rfl, rfl⟩ := dw_s2 h
            exact dw_iret C0 Z hr hlk dX10_where_191
          have L95 : ∀ (n95 : Nat) (x25 : Int32) (x26 : Int32) (μ27 : dw_M) (H : Heap) (locs : List Loc) (ls : Array Slot), dw_Z Γ (dw_A Γ) s.heap μ27 H locs → lv_has ls 6 [(0, .ref (dw_ad Γ 142)), (1, .int a1), (3, .int x25), (4, .int x26)] → dw_bd (dw_wh (fun v => sX10_where_95 a1 v.1 v.2.1 v.2.2) n95 (x25, x26, μ27)) kc95 = some (r, ν) → W p l e (dw_rm 7 163) s m ([.ref (dw_ad Γ 142), .int a1, .int a2] : List Value).toArray below meth c H locs 0 0 (MQ below (dw_Qi Γ r ν) ([.ref (dw_ad Γ 142), .int a1, .int a2] : List Value).toArray s 0 0 (dw_A Γ)) (F0 m 95 ls []) := by
            clear h
            intro n95
            induction n95 with
            | zero =>
              intro x25 x26 μ27 H locs ls Z hl h
              exact (dw_wh0 h).elim
            | succ n95 ih95 =>
              intro x25 x26 μ27 H locs ls Z hl h
              obtain ⟨q95, hs, hq95⟩ := dw_whB h
              have h : sX10_where_95 a1 x25 x26 μ27 = some q95 := hs
              unfold sX10_where_95 at h
              refine lv_iload hx hb dX10_where_95 (lv_at hl 3 rfl) ?_
              refine lv_aload_n hx hb dX10_where_97 rfl (lv_at hl 0 rfl) ?_
              refine dw_g10_0 (t := 143) C0 Z dw_kc142 tw_fX10_7 rfl dX10_where_98 ?_
              refine lv_bipush (v := (13 : Int32)) hx hb dX10_where_101 (by decide) ?_
              refine dw_ald C0 Z dw_kc143 dw_lc143 (by decide) dX10_where_103 ?_
              refine lv_icmp_ge (tgt := 189) hx hb dX10_where_104 (by decide) (fun c28 => ?_) (fun c28 => ?_)
              · have h := dw_ifT c28 h
                obtain rfl := dw_s1 h
                exact E95  μ27 H locs ls Z (lv_sub hl [] rfl) hq95
              · have h := dw_ifF c28 h
                refine lv_iload hx hb dX10_where_107 (lv_at hl 3 rfl) ?_
                refine lv_iconst (v := (1 : Int32)) hx hb dX10_where_109 (by decide) ?_
                refine lv_iadd hx hb dX10_where_110 ?_
                refine lv_topi (fun x29 ex29 => ?_)
                have h := dw_nmS ex29 h
                refine lv_istore (lv' := [(5, .int x29), (0, .ref (dw_ad Γ 142)), (1, .int a1), (3, .int x25), (4, .int x26)]) hx hb dX10_where_111 hl (by decide) rfl (fun ls hl => ?_)
                obtain ⟨kc113, ekc113, h⟩ := dw_bdK h
                have E113 : ∀ (x50 : Int32) (μ51 : dw_M) (H : Heap) (locs : List Loc) (ls : Array Slot), dw_Z Γ (dw_A Γ) s.heap μ51 H locs → lv_has ls 6 [(0, .ref (dw_ad Γ 142)), (1, .int a1), (3, .int x50), (4, .int x26)] → kc113 (.inl (x50, μ51)) = some q95 → W p l e (dw_rm 7 163) s m ([.ref (dw_ad Γ 142), .int a1, .int a2] : List Value).toArray below meth c H locs 0 0 (MQ below (dw_Qi Γ r ν) ([.ref (dw_ad Γ 142), .int a1, .int a2] : List Value).toArray s 0 0 (dw_A Γ)) (F0 m 183 ls []) := by
                  intro x50 μ51 H locs ls Z hl h
                  rw [ekc113] at h
                  dsimp only [Sum.elim] at h
                  obtain ⟨x52, ex52⟩ := dw_eg (x26 + (1 : Int32))
                  have h := dw_nmS ex52 h
                  refine lv_iinc (v := x52) (lv' := [(4, .int x52), (0, .ref (dw_ad Γ 142)), (1, .int a1), (3, .int x50)]) hx hb dX10_where_183 hl (k := 3) rfl (by rw [ex52]; rfl) (by decide) rfl (fun ls hl => ?_)
                  refine lv_goto (tgt := 95) hx hb dX10_where_186 (by decide) ?_
                  obtain rfl := dw_s1 h
                  exact ih95 x50 x52 μ51 H locs ls Z (lv_sub hl [1, 2, 3, 0] rfl) hq95
                have L113 : ∀ (n113 : Nat) (x30 : Int32) (x31 : Int32) (μ32 : dw_M) (H : Heap) (locs : List Loc) (ls : Array Slot), dw_Z Γ (dw_A Γ) s.heap μ32 H locs → lv_has ls 6 [(0, .ref (dw_ad Γ 142)), (1, .int a1), (3, .int x30), (4, .int x26), (5, .int x31)] → dw_bd (dw_wh (fun v => sX10_where_113 a1 x26 v.1 v.2.1 v.2.2) n113 (x30, x31, μ32)) kc113 = some q95 → W p l e (dw_rm 7 163) s m ([.ref (dw_ad Γ 142), .int a1, .int a2] : List Value).toArray below meth c H locs 0 0 (MQ below (dw_Qi Γ r ν) ([.ref (dw_ad Γ 142), .int a1, .int a2] : List Value).toArray s 0 0 (dw_A Γ)) (F0 m 113 ls []) := by
                  clear h
                  intro n113
                  induction n113 with
                  | zero =>
                    intro x30 x31 μ32 H locs ls Z hl h
                    exact (dw_wh0 h).elim
                  | succ n113 ih113 =>
                    intro x30 x31 μ32 H locs ls Z hl h
                    obtain ⟨q113, hs, hq113⟩ := dw_whB h
                    have h : sX10_where_113 a1 x26 x30 x31 μ32 = some q113 := hs
                    unfold sX10_where_113 at h
                    refine lv_iload hx hb dX10_where_113 (lv_at hl 4 rfl) ?_
                    refine lv_aload_n hx hb dX10_where_115 rfl (lv_at hl 0 rfl) ?_
                    refine dw_g10_0 (t := 143) C0 Z dw_kc142 tw_fX10_7 rfl dX10_where_116 ?_
                    refine lv_bipush (v := (13 : Int32)) hx hb dX10_where_119 (by decide) ?_
                    refine dw_ald C0 Z dw_kc143 dw_lc143 (by decide) dX10_where_121 ?_
                    refine lv_icmp_ge (tgt := 183) hx hb dX10_where_122 (by decide) (fun c33 => ?_) (fun c33 => ?_)
                    · have h := dw_ifT c33 h
                      obtain rfl := dw_s1 h
                      exact E113 x30 μ32 H locs ls Z (lv_sub hl [0, 1, 2, 3] rfl) hq113
                    · have h := dw_ifF c33 h
                      refine lv_aload_n hx hb dX10_where_125 rfl (lv_at hl 0 rfl) ?_
                      refine lv_iload hx hb dX10_where_126 (lv_at hl 3 rfl) ?_
                      refine lv_bipush (v := (8 : Int32)) hx hb dX10_where_128 (by decide) ?_
                      obtain ⟨r35, hc34, h⟩ := dw_bdS h
                      refine dw_cVi C0 Z dw_hA (dw_lt dw_kc142 (by decide)) (dw_cz10 dw_kc142) rfl (As := [.int x26, .int (8 : Int32)]) (rest := []) (kX10_pipeOf l Γ hj μ32 x26 (8 : Int32) hc34) (dw_gV tw_lX10_55 tw_vX10_pipeOf tw_eX10_pipeOf tw_iX10 tw_kX10_pipeOf) dw_hX10_pipeOf ⟨Nat.le_of_ble_eq_true rfl, Nat.le_of_ble_eq_true rfl⟩ ⟨Nat.zero_le _, Nat.zero_le _⟩ hl.1 (Nat.le_of_ble_eq_true rfl) rfl dX10_where_130 (fun H locs Z => ?_)
                      refine lv_if_ne (tgt := 177) hx hb dX10_where_133 (by decide) (fun c36 => ?_) (fun c36 => ?_)
                      · have h := dw_ifF c36 h
                        obtain ⟨x37, ex37⟩ := dw_eg (x31 + (1 : Int32))
                        have h := dw_nmS ex37 h
                        refine lv_iinc (v := x37) (lv' := [(5, .int x37), (0, .ref (dw_ad Γ 142)), (1, .int a1), (3, .int x30), (4, .int x26)]) hx hb dX10_where_177 hl (k := 4) rfl (by rw [ex37]; rfl) (by decide) rfl (fun ls hl => ?_)
                        refine lv_goto (tgt := 113) hx hb dX10_where_180 (by decide) ?_
                        obtain rfl := dw_s1 h
                        exact ih113 x30 x37 μ32 H locs ls Z (lv_sub hl [1, 2, 3, 4, 0] rfl) hq113
                      · have h := dw_ifT c36 h
                        refine lv_aload_n hx hb dX10_where_136 rfl (lv_at hl 0 rfl) ?_
                        refine lv_iload hx hb dX10_where_137 (lv_at hl 4 rfl) ?_
                        refine lv_bipush (v := (8 : Int32)) hx hb dX10_where_139 (by decide) ?_
                        obtain ⟨r39, hc38, h⟩ := dw_bdS h
                        refine dw_cVi C0 Z dw_hA (dw_lt dw_kc142 (by decide)) (dw_cz10 dw_kc142) rfl (As := [.int x31, .int (8 : Int32)]) (rest := []) (kX10_pipeOf l Γ hj μ32 x31 (8 : Int32) hc38) (dw_gV tw_lX10_55 tw_vX10_pipeOf tw_eX10_pipeOf tw_iX10 tw_kX10_pipeOf) dw_hX10_pipeOf ⟨Nat.le_of_ble_eq_true rfl, Nat.le_of_ble_eq_true rfl⟩ ⟨Nat.zero_le _, Nat.zero_le _⟩ hl.1 (Nat.le_of_ble_eq_true rfl) rfl dX10_where_141 (fun H locs Z => ?_)
                        refine lv_if_ne (tgt := 177) hx hb dX10_where_144 (by decide) (fun c40 => ?_) (fun c40 => ?_)
                        · have h := dw_ifF c40 h
                          obtain ⟨x41, ex41⟩ := dw_eg (x31 + (1 : Int32))
                          have h := dw_nmS ex41 h
                          refine lv_iinc (v := x41) (lv' := [(5, .int x41), (0, .ref (dw_ad Γ 142)), (1, .int a1), (3, .int x30), (4, .int x26)]) hx hb dX10_where_177 hl (k := 4) rfl (by rw [ex41]; rfl) (by decide) rfl (fun ls hl => ?_)
                          refine lv_goto (tgt := 113) hx hb dX10_where_180 (by decide) ?_
                          obtain rfl := dw_s1 h
                          exact ih113 x30 x41 μ32 H locs ls Z (lv_sub hl [1, 2, 3, 4, 0] rfl) hq113
                        · have h := dw_ifT c40 h
                          refine lv_aload_n hx hb dX10_where_147 rfl (lv_at hl 0 rfl) ?_
                          refine lv_iload_n hx hb dX10_where_148 rfl (lv_at hl 1 rfl) ?_
                          refine lv_iload hx hb dX10_where_149 (lv_at hl 3 rfl) ?_
                          refine lv_iload hx hb dX10_where_151 (lv_at hl 4 rfl) ?_
                          obtain ⟨r43, μ44, hc42, h⟩ := dw_b2S h
                          refine dw_cVi C0 Z dw_hA (dw_lt dw_kc142 (by decide)) (dw_cz10 dw_kc142) rfl (As := [.int a1, .int x26, .int x31]) (rest := []) (kX10_fits l Γ hj μ32 a1 x26 x31 hc42) (dw_gV tw_lX10_138 tw_vX10_fits tw_eX10_fits tw_iX10 tw_kX10_fits) dw_hX10_fits ⟨Nat.le_of_ble_eq_true rfl, Nat.le_of_ble_eq_true rfl⟩ ⟨Nat.zero_le _, Nat.zero_le _⟩ hl.1 (Nat.le_of_ble_eq_true rfl) rfl dX10_where_153 (fun H locs Z => ?_)
                          refine lv_if_eq (tgt := 177) hx hb dX10_where_156 (by decide) (fun c45 => ?_) (fun c45 => ?_)
                          · have h := dw_ifT c45 h
                            obtain ⟨x46, ex46⟩ := dw_eg (x31 + (1 : Int32))
                            have h := dw_nmS ex46 h
                            refine lv_iinc (v := x46) (lv' := [(5, .int x46), (0, .ref (dw_ad Γ 142)), (1, .int a1), (3, .int x30), (4, .int x26)]) hx hb dX10_where_177 hl (k := 4) rfl (by rw [ex46]; rfl) (by decide) rfl (fun ls hl => ?_)
                            refine lv_goto (tgt := 113) hx hb dX10_where_180 (by decide) ?_
                            obtain rfl := dw_s1 h
                            exact ih113 x30 x46 μ44 H locs ls Z (lv_sub hl [1, 2, 3, 4, 0] rfl) hq113
                          · have h := dw_ifF c45 h
                            refine lv_iload_n hx hb dX10_where_159 rfl (lv_at hl 2 rfl) ?_
                            refine lv_if_ne (tgt := 174) hx hb dX10_where_160 (by decide) (fun c47 => ?_) (fun c47 => ?_)
                            · have h := dw_ifF c47 h
                              obtain ⟨x48, ex48⟩ := dw_eg (x30 + (-1 : Int32))
                              have h := dw_nmS ex48 h
                              refine lv_iinc (v := x48) (lv' := [(3, .int x48), (0, .ref (dw_ad Γ 142)), (1, .int a1), (4, .int x26), (5, .int x31)]) hx hb dX10_where_174 hl (k := 2) rfl (by rw [ex48]; rfl) (by decide) rfl (fun ls hl => ?_)
                              obtain ⟨x49, ex49⟩ := dw_eg (x31 + (1 : Int32))
                              have h := dw_nmS ex49 h
                              refine lv_iinc (v := x49) (lv' := [(5, .int x49), (3, .int x48), (0, .ref (dw_ad Γ 142)), (1, .int a1), (4, .int x26)]) hx hb dX10_where_177 hl (k := 4) rfl (by rw [ex49]; rfl) (by decide) rfl (fun ls hl => ?_)
                              refine lv_goto (tgt := 113) hx hb dX10_where_180 (by decide) ?_
                              obtain rfl := dw_s1 h
                              exact ih113 x48 x49 μ44 H locs ls Z (lv_sub hl [2, 3, 1, 4, 0] rfl) hq113
                            · have h := dw_ifT c47 h
                              refine lv_bipush (v := (100 : Int32)) hx hb dX10_where_163 (by decide) ?_
                              refine lv_iload hx hb dX10_where_165 (lv_at hl 3 rfl) ?_
                              refine lv_iconst (v := (1 : Int32)) hx hb dX10_where_167 (by decide) ?_
                              refine lv_iadd hx hb dX10_where_168 ?_
                              refine lv_imul hx hb dX10_where_169 ?_
                              refine lv_iload hx hb dX10_where_170 (lv_at hl 4 rfl) ?_
                              refine lv_iadd hx hb dX10_where_172 ?_
                              obtain rfl := dw_s1 h
                              have h := hq113
                              dsimp only at h
                              rw [ekc113] at h
                              dsimp only [Sum.elim] at h
                              obtain rfl := dw_s1 h
                              have h := hq95
                              dsimp only at h
                              rw [ekc95] at h
                              dsimp only [Sum.elim] at h
                              obtain ⟨rfl, rfl⟩ := dw_s2 h
                              exact dw_iret C0 Z hr hlk dX10_where_173
                exact L113 1000 x25 x29 μ27 H locs ls Z (lv_sub hl [1, 2, 3, 4, 0] rfl) h
          exact L95 1000 x23 (0 : Int32) μ24 H locs ls Z (lv_sub hl [1, 2, 3, 0] rfl) h
        have L42 : ∀ (n42 : Nat) (x7 : Int32) (x8 : Int32) (μ9 : dw_M) (H : Heap) (locs : List Loc) (ls : Array Slot), dw_Z Γ (dw_A Γ) s.heap μ9 H locs → lv_has ls 6 [(0, .ref (dw_ad Γ 142)), (1, .int a1), (3, .int x7), (4, .int x8)] → dw_bd (dw_wh (fun v => sX10_where_42 a1 v.1 v.2.1 v.2.2) n42 (x7, x8, μ9)) kc42 = some (r, ν) → W p l e (dw_rm 7 163) s m ([.ref (dw_ad Γ 142), .int a1, .int a2] : List Value).toArray below meth c H locs 0 0 (MQ below (dw_Qi Γ r ν) ([.ref (dw_ad Γ 142), .int a1, .int a2] : List Value).toArray s 0 0 (dw_A Γ)) (F0 m 42 ls []) := by
          clear h
          intro n42
          induction n42 with
          | zero =>
            intro x7 x8 μ9 H locs ls Z hl h
            exact (dw_wh0 h).elim
          | succ n42 ih42 =>
            intro x7 x8 μ9 H locs ls Z hl h
            obtain ⟨q42, hs, hq42⟩ := dw_whB h
            have h : sX10_where_42 a1 x7 x8 μ9 = some q42 := hs
            unfold sX10_where_42 at h
            refine lv_iload hx hb dX10_where_42 (lv_at hl 3 rfl) ?_
            refine lv_aload_n hx hb dX10_where_44 rfl (lv_at hl 0 rfl) ?_
            refine dw_g10_0 (t := 143) C0 Z dw_kc142 tw_fX10_7 rfl dX10_where_45 ?_
            refine lv_bipush (v := (13 : Int32)) hx hb dX10_where_48 (by decide) ?_
            refine dw_ald C0 Z dw_kc143 dw_lc143 (by decide) dX10_where_50 ?_
            refine lv_icmp_ge (tgt := 92) hx hb dX10_where_51 (by decide) (fun c10 => ?_) (fun c10 => ?_)
            · have h := dw_ifT c10 h
              obtain rfl := dw_s1 h
              exact E42 x7 μ9 H locs ls Z (lv_sub hl [0, 1, 2] rfl) hq42
            · have h := dw_ifF c10 h
              refine lv_aload_n hx hb dX10_where_54 rfl (lv_at hl 0 rfl) ?_
              refine lv_iload hx hb dX10_where_55 (lv_at hl 3 rfl) ?_
              refine lv_bipush (v := (8 : Int32)) hx hb dX10_where_57 (by decide) ?_
              obtain ⟨r12, hc11, h⟩ := dw_bdS h
              refine dw_cVi C0 Z dw_hA (dw_lt dw_kc142 (by decide)) (dw_cz10 dw_kc142) rfl (As := [.int x8, .int (8 : Int32)]) (rest := []) (kX10_pipeOf l Γ hj μ9 x8 (8 : Int32) hc11) (dw_gV tw_lX10_55 tw_vX10_pipeOf tw_eX10_pipeOf tw_iX10 tw_kX10_pipeOf) dw_hX10_pipeOf ⟨Nat.le_of_ble_eq_true rfl, Nat.le_of_ble_eq_true rfl⟩ ⟨Nat.zero_le _, Nat.zero_le _⟩ hl.1 (Nat.le_of_ble_eq_true rfl) rfl dX10_where_59 (fun H locs Z => ?_)
              refine lv_if_ne (tgt := 86) hx hb dX10_where_62 (by decide) (fun c13 => ?_) (fun c13 => ?_)
              · have h := dw_ifF c13 h
                obtain ⟨x14, ex14⟩ := dw_eg (x8 + (1 : Int32))
                have h := dw_nmS ex14 h
                refine lv_iinc (v := x14) (lv' := [(4, .int x14), (0, .ref (dw_ad Γ 142)), (1, .int a1), (3, .int x7)]) hx hb dX10_where_86 hl (k := 3) rfl (by rw [ex14]; rfl) (by decide) rfl (fun ls hl => ?_)
                refine lv_goto (tgt := 42) hx hb dX10_where_89 (by decide) ?_
                obtain rfl := dw_s1 h
                exact ih42 x7 x14 μ9 H locs ls Z (lv_sub hl [1, 2, 3, 0] rfl) hq42
              · have h := dw_ifT c13 h
                refine lv_aload_n hx hb dX10_where_65 rfl (lv_at hl 0 rfl) ?_
                refine lv_iload_n hx hb dX10_where_66 rfl (lv_at hl 1 rfl) ?_
                refine lv_iload hx hb dX10_where_67 (lv_at hl 3 rfl) ?_
                refine lv_iconst (v := (-1 : Int32)) hx hb dX10_where_69 (by decide) ?_
                obtain ⟨r16, μ17, hc15, h⟩ := dw_b2S h
                refine dw_cVi C0 Z dw_hA (dw_lt dw_kc142 (by decide)) (dw_cz10 dw_kc142) rfl (As := [.int a1, .int x8, .int (-1 : Int32)]) (rest := []) (kX10_fits l Γ hj μ9 a1 x8 (-1 : Int32) hc15) (dw_gV tw_lX10_138 tw_vX10_fits tw_eX10_fits tw_iX10 tw_kX10_fits) dw_hX10_fits ⟨Nat.le_of_ble_eq_true rfl, Nat.le_of_ble_eq_true rfl⟩ ⟨Nat.zero_le _, Nat.zero_le _⟩ hl.1 (Nat.le_of_ble_eq_true rfl) rfl dX10_where_70 (fun H locs Z => ?_)
                refine lv_if_eq (tgt := 86) hx hb dX10_where_73 (by decide) (fun c18 => ?_) (fun c18 => ?_)
                · have h := dw_ifT c18 h
                  obtain ⟨x19, ex19⟩ := dw_eg (x8 + (1 : Int32))
                  have h := dw_nmS ex19 h
                  refine lv_iinc (v := x19) (lv' := [(4, .int x19), (0, .ref (dw_ad Γ 142)), (1, .int a1), (3, .int x7)]) hx hb dX10_where_86 hl (k := 3) rfl (by rw [ex19]; rfl) (by decide) rfl (fun ls hl => ?_)
                  refine lv_goto (tgt := 42) hx hb dX10_where_89 (by decide) ?_
                  obtain rfl := dw_s1 h
                  exact ih42 x7 x19 μ17 H locs ls Z (lv_sub hl [1, 2, 3, 0] rfl) hq42
                · have h := dw_ifF c18 h
                  refine lv_iload_n hx hb dX10_where_76 rfl (lv_at hl 2 rfl) ?_
                  refine lv_if_ne (tgt := 83) hx hb dX10_where_77 (by decide) (fun c20 => ?_) (fun c20 => ?_)
                  · have h := dw_ifF c20 h
                    obtain ⟨x21, ex21⟩ := dw_eg (x7 + (-1 : Int32))
                    have h := dw_nmS ex21 h
                    refine lv_iinc (v := x21) (lv' := [(3, .int x21), (0, .ref (dw_ad Γ 142)), (1, .int a1), (4, .int x8)]) hx hb dX10_where_83 hl (k := 2) rfl (by rw [ex21]; rfl) (by decide) rfl (fun ls hl => ?_)
                    obtain ⟨x22, ex22⟩ := dw_eg (x8 + (1 : Int32))
                    have h := dw_nmS ex22 h
                    refine lv_iinc (v := x22) (lv' := [(4, .int x22), (3, .int x21), (0, .ref (dw_ad Γ 142)), (1, .int a1)]) hx hb dX10_where_86 hl (k := 3) rfl (by rw [ex22]; rfl) (by decide) rfl (fun ls hl => ?_)
                    refine lv_goto (tgt := 42) hx hb dX10_where_89 (by decide) ?_
                    obtain rfl := dw_s1 h
                    exact ih42 x21 x22 μ17 H locs ls Z (lv_sub hl [2, 3, 1, 0] rfl) hq42
                  · have h := dw_ifT c20 h
                    refine lv_iload hx hb dX10_where_80 (lv_at hl 3 rfl) ?_
                    obtain rfl := dw_s1 h
                    have h := hq42
                    dsimp only at h
                    rw [ekc42] at h
                    dsimp only [Sum.elim] at h
                    obtain ⟨rfl, rfl⟩ := dw_s2 h
                    exact dw_iret C0 Z hr hlk dX10_where_82
        exact L42 1000 x6 (0 : Int32) μ5 H locs ls Z (lv_sub hl [1, 2, 3, 0] rfl) h
      refine lv_if_eq (tgt := 39) hx hb dX10_where_25 (by decide) (fun c54 => ?_) (fun c54 => ?_)
      · have h := dw_ifT c54 h
        exact J39 a2 H locs ls Z (lv_sub hl [1, 2, 0] rfl) h
      · have h := dw_ifF c54 h
        refine lv_iload_n hx hb dX10_where_28 rfl (lv_at hl 0 rfl) ?_
        refine lv_if_ne (tgt := 36) hx hb dX10_where_29 (by decide) (fun c55 => ?_) (fun c55 => ?_)
        · have h := dw_ifF c55 h
          obtain ⟨x56, ex56⟩ := dw_eg (a2 + (-1 : Int32))
          have h := dw_nmS ex56 h
          refine lv_iinc (v := x56) (lv' := [(3, .int x56), (0, .ref (dw_ad Γ 142)), (1, .int a1), (2, .int a2)]) hx hb dX10_where_36 hl (k := 0) rfl (by rw [ex56]; rfl) (by decide) rfl (fun ls hl => ?_)
          exact J39 x56 H locs ls Z (lv_sub hl [1, 2, 0] rfl) h
        · have h := dw_ifT c55 h
          refine lv_sipush (v := (9999 : Int32)) hx hb dX10_where_32 (by decide) ?_
          obtain ⟨rfl, rfl⟩ := dw_s2 h
          exact dw_iret C0 Z hr hlk dX10_where_35
    · have h := dw_ifF c2 h
      refine lv_iconst (v := (-1 : Int32)) hx hb dX10_where_14 (by decide) ?_
      obtain ⟨rfl, rfl⟩ := dw_s2 h
      exact dw_iret C0 Z hr hlk dX10_where_15

def fX10_keep (μ : dw_M) : Option (Int32 × dw_M) :=
  dw_nm (dw_st μ 142 3 (1 : Int32)) (fun μ1 =>
  dw_bd (fX10_copy μ1 143 144) (fun μ3 =>
  some ((1 : Int32), μ3)))
set_option maxHeartbeats 4000000 in
set_option maxRecDepth 100000 in
theorem kX10_keep (l : Launch) (Γ : dw_G) (hj : dw_inj Γ) (μ : dw_M)  {r : Int32} {ν : dw_M} (h : fX10_keep μ = some (r, ν)) : Met l yX10_keep (dw_ws yX10_keep cX10_keep 1 (some .int)) (dw_rm 1 22) (dw_P Γ ([.ref (dw_ad Γ 142)] : List Value) μ) (dw_Qi Γ r ν) 0 0 (dw_A Γ) := by
  refine dw_met (own := RX10) rfl rfl (Nat.le_of_ble_eq_true rfl) hj ?_
  intro p e s m below meth c C0 hr hlk Z ls hl
  have hx := C0.1
  have hb := C0.2.1
  have hl : lv_has ls 1 [(0, .ref (dw_ad Γ 142))] := hl
  suffices key : ∀ (H : Heap) (locs : List Loc), dw_Z Γ (dw_A Γ) s.heap μ H locs → W p l e (dw_rm 1 22) s m ([.ref (dw_ad Γ 142)] : List Value).toArray below meth c H locs 0 0 (MQ below (dw_Qi Γ r ν) ([.ref (dw_ad Γ 142)] : List Value).toArray s 0 0 (dw_A Γ)) (F0 m 0 ls []) from key _ _ Z
  clear Z
  intro H locs Z
  unfold fX10_keep at h
  refine lv_aload_n hx hb dX10_keep_0 rfl (lv_at hl 0 rfl) ?_
  refine lv_iconst (v := (1 : Int32)) hx hb dX10_keep_1 (by decide) ?_
  refine dw_p10_3 C0 Z dw_hA dw_kc142 tw_fX10_141 (Or.inr rfl) dX10_keep_2 (fun μ1 eμ1 H locs Z => ?_)
  have h := dw_nmS eμ1 h
  refine lv_aload_n hx hb dX10_keep_5 rfl (lv_at hl 0 rfl) ?_
  refine dw_g10_0 (t := 143) C0 Z dw_kc142 tw_fX10_7 rfl dX10_keep_6 ?_
  refine lv_aload_n hx hb dX10_keep_9 rfl (lv_at hl 0 rfl) ?_
  refine dw_g10_1 (t := 144) C0 Z dw_kc142 tw_fX10_13 rfl dX10_keep_10 ?_
  obtain ⟨μ3, hc2, h⟩ := dw_bdS h
  refine dw_cSv C0 Z dw_hA (As := [.ref (dw_ad Γ 143), .ref (dw_ad Γ 144)]) (rest := []) (kX10_copy l Γ hj μ1 143 dw_kc143 144 dw_kc144 hc2) (dw_gS tw_lX10_134 tw_sX10_copy tw_iX10 tw_kX10_copy) dw_hX10_copy ⟨Nat.le_of_ble_eq_true rfl, Nat.le_of_ble_eq_true rfl⟩ ⟨Nat.zero_le _, Nat.zero_le _⟩ hl.1 (Nat.le_of_ble_eq_true rfl) rfl dX10_keep_13 (fun H locs Z => ?_)
  refine lv_iconst (v := (1 : Int32)) hx hb dX10_keep_16 (by decide) ?_
  obtain ⟨rfl, rfl⟩ := dw_s2 h
  exact dw_iret C0 Z hr hlk dX10_keep_17

def fX10_back (μ : dw_M) : Option (Int32 × dw_M) :=
  if (μ.1 142 3) = 0 then (
  some ((-6 : Int32), μ))
  else (
  dw_bd (fX10_copy μ 144 143) (fun μ3 =>
  some ((1 : Int32), μ3)))
set_option maxHeartbeats 4000000 in
set_option maxRecDepth 100000 in
theorem kX10_back (l : Launch) (Γ : dw_G) (hj : dw_inj Γ) (μ : dw_M)  {r : Int32} {ν : dw_M} (h : fX10_back μ = some (r, ν)) : Met l yX10_back (dw_ws yX10_back cX10_back 1 (some .int)) (dw_rm 1 22) (dw_P Γ ([.ref (dw_ad Γ 142)] : List Value) μ) (dw_Qi Γ r ν) 0 0 (dw_A Γ) := by
  refine dw_met (own := RX10) rfl rfl (Nat.le_of_ble_eq_true rfl) hj ?_
  intro p e s m below meth c C0 hr hlk Z ls hl
  have hx := C0.1
  have hb := C0.2.1
  have hl : lv_has ls 1 [(0, .ref (dw_ad Γ 142))] := hl
  suffices key : ∀ (H : Heap) (locs : List Loc), dw_Z Γ (dw_A Γ) s.heap μ H locs → W p l e (dw_rm 1 22) s m ([.ref (dw_ad Γ 142)] : List Value).toArray below meth c H locs 0 0 (MQ below (dw_Qi Γ r ν) ([.ref (dw_ad Γ 142)] : List Value).toArray s 0 0 (dw_A Γ)) (F0 m 0 ls []) from key _ _ Z
  clear Z
  intro H locs Z
  unfold fX10_back at h
  refine lv_aload_n hx hb dX10_back_0 rfl (lv_at hl 0 rfl) ?_
  refine dw_g10_3 C0 Z dw_kc142 tw_fX10_141 dX10_back_1 ?_
  refine lv_if_ne (tgt := 10) hx hb dX10_back_4 (by decide) (fun c1 => ?_) (fun c1 => ?_)
  · have h := dw_ifF c1 h
    refine lv_aload_n hx hb dX10_back_10 rfl (lv_at hl 0 rfl) ?_
    refine dw_g10_1 (t := 144) C0 Z dw_kc142 tw_fX10_13 rfl dX10_back_11 ?_
    refine lv_aload_n hx hb dX10_back_14 rfl (lv_at hl 0 rfl) ?_
    refine dw_g10_0 (t := 143) C0 Z dw_kc142 tw_fX10_7 rfl dX10_back_15 ?_
    obtain ⟨μ3, hc2, h⟩ := dw_bdS h
    refine dw_cSv C0 Z dw_hA (As := [.ref (dw_ad Γ 144), .ref (dw_ad Γ 143)]) (rest := []) (kX10_copy l Γ hj μ 144 dw_kc144 143 dw_kc143 hc2) (dw_gS tw_lX10_134 tw_sX10_copy tw_iX10 tw_kX10_copy) dw_hX10_copy ⟨Nat.le_of_ble_eq_true rfl, Nat.le_of_ble_eq_true rfl⟩ ⟨Nat.zero_le _, Nat.zero_le _⟩ hl.1 (Nat.le_of_ble_eq_true rfl) rfl dX10_back_18 (fun H locs Z => ?_)
    refine lv_iconst (v := (1 : Int32)) hx hb dX10_back_21 (by decide) ?_
    obtain ⟨rfl, rfl⟩ := dw_s2 h
    exact dw_iret C0 Z hr hlk dX10_back_22
  · have h := dw_ifT c1 h
    refine lv_bipush (v := (-6 : Int32)) hx hb dX10_back_7 (by decide) ?_
    obtain ⟨rfl, rfl⟩ := dw_s2 h
    exact dw_iret C0 Z hr hlk dX10_back_9
