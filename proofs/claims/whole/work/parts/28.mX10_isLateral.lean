def fX10_isLateral (μ : dw_M) (a1 : Int32) : Option (Int32) :=
  dw_bd (fX10_pipeOf μ a1 (0 : Int32)) (fun r2 =>
  if (dw_re r2 (2 : Int32)) = 0 then (
  some (1 : Int32))
  else (
  some (0 : Int32)))
set_option maxHeartbeats 4000000 in
set_option maxRecDepth 100000 in
theorem kX10_isLateral (l : Launch) (Γ : dw_G) (hj : dw_inj Γ) (μ : dw_M) (a1 : Int32) {r : Int32} (h : fX10_isLateral μ a1 = some r) : Met l yX10_isLateral (dw_ws yX10_isLateral cX10_isLateral 2 (some .boolean)) (dw_rm 1 22) (dw_P Γ ([.ref (dw_ad Γ 143), .int a1] : List Value) μ) (dw_Qi Γ r μ) 0 0 (dw_A Γ) := by
  refine dw_met (own := RX10) rfl rfl (Nat.le_of_ble_eq_true rfl) hj ?_
  intro p e s m below meth c C0 hr hlk Z ls hl
  have hx := C0.1
  have hb := C0.2.1
  have hl : lv_has ls 2 [(0, .ref (dw_ad Γ 143)), (1, .int a1)] := hl
  suffices key : ∀ (H : Heap) (locs : List Loc), dw_Z Γ (dw_A Γ) s.heap μ H locs → W p l e (dw_rm 1 22) s m ([.ref (dw_ad Γ 143), .int a1] : List Value).toArray below meth c H locs 0 0 (MQ below (dw_Qi Γ r μ) ([.ref (dw_ad Γ 143), .int a1] : List Value).toArray s 0 0 (dw_A Γ)) (F0 m 0 ls []) from key _ _ Z
  clear Z
  intro H locs Z
  unfold fX10_isLateral at h
  refine lv_aload_n hx hb dX10_isLateral_0 rfl (lv_at hl 0 rfl) ?_
  refine lv_iload_n hx hb dX10_isLateral_1 rfl (lv_at hl 1 rfl) ?_
  refine lv_iconst (v := (0 : Int32)) hx hb dX10_isLateral_2 (by decide) ?_
  obtain ⟨r2, hc1, h⟩ := dw_bdS h
  refine dw_cVi C0 Z dw_hA (dw_lt dw_kc143 (by decide)) (dw_cz10 dw_kc143) rfl (As := [.int a1, .int (0 : Int32)]) (rest := []) (kX10_pipeOf l Γ hj μ a1 (0 : Int32) hc1) (dw_gV tw_lX10_55 tw_vX10_pipeOf tw_eX10_pipeOf tw_iX10 tw_kX10_pipeOf) dw_hX10_pipeOf ⟨Nat.le_of_ble_eq_true rfl, Nat.le_of_ble_eq_true rfl⟩ ⟨Nat.zero_le _, Nat.zero_le _⟩ hl.1 (Nat.le_of_ble_eq_true rfl) rfl dX10_isLateral_3 (fun H locs Z => ?_)
  refine lv_iconst (v := (2 : Int32)) hx hb dX10_isLateral_6 (by decide) ?_
  refine lv_irem hx hb dX10_isLateral_7 (by decide) ?_
  refine W.eq (g2 := F0 m 8 ls [.int (dw_re r2 (2 : Int32))]) rfl ?_
  refine lv_if_ne (tgt := 15) hx hb dX10_isLateral_8 (by decide) (fun c3 => ?_) (fun c3 => ?_)
  · have h := dw_ifF c3 h
    refine lv_iconst (v := (0 : Int32)) hx hb dX10_isLateral_15 (by decide) ?_
    obtain rfl := dw_s1 h
    exact dw_zret C0 Z hr hlk rfl dX10_isLateral_16
  · have h := dw_ifT c3 h
    refine lv_iconst (v := (1 : Int32)) hx hb dX10_isLateral_11 (by decide) ?_
    refine lv_goto (tgt := 16) hx hb dX10_isLateral_12 (by decide) ?_
    obtain rfl := dw_s1 h
    exact dw_zret C0 Z hr hlk rfl dX10_isLateral_16

def sX10_seep_12 (x1 : Int32) (x4 : Int32) (μ5 : dw_M) : Option ((Int32 × dw_M) ⊕ ((dw_M))) :=
  if (μ5.1 144 (13 : Int32).toNatClampNeg) ≤ x4 then (
  some (.inr μ5))
  else (
  dw_bd (fX10_pipeOf μ5 x4 (0 : Int32)) (fun r8 =>
  dw_jm (fun (x9 : Int32) =>
  dw_bd (fX10_isLateral μ5 x4) (fun r11 =>
  if r11 = 0 then (
  dw_nm (x4 + (1 : Int32)) (fun x13 =>
  some (.inl (x13, μ5))))
  else (
  dw_bd (fX10_stepOf μ5 x4 x1) (fun r15 =>
  if r15 < 0 then (
  dw_nm (x4 + (1 : Int32)) (fun x17 =>
  some (.inl (x17, μ5))))
  else (
  dw_bd (fX10_pipeOf μ5 x4 (8 : Int32)) (fun r19 =>
  if r19 = 0 then (
  if x9 = 0 then (
  dw_gd (dw_ok ((140 : Int32) + x1) 800) (
  dw_bd (fX10_soilOf μ5 x1 (1 : Int32)) (fun r26 =>
  dw_bd (fX10_holds μ5 x4) (fun r28 =>
  dw_bd (fX10_pipeOf μ5 x4 (9 : Int32)) (fun r30 =>
  dw_nm (fX10_lesser (((μ5.1 144 ((140 : Int32) + x1).toNatClampNeg) * r26) / (100 : Int32)) (r28 - r30)) (fun x31 =>
  dw_nm (dw_st μ5 144 ((140 : Int32) + x1).toNatClampNeg ((μ5.1 144 ((140 : Int32) + x1).toNatClampNeg) - x31)) (fun μ32 =>
  dw_bd (fX10_pipeOf μ32 x4 (9 : Int32)) (fun r34 =>
  dw_bd (fX10_setPipe μ32 x4 (9 : Int32) (r34 + x31)) (fun μ36 =>
  dw_nm (x4 + (1 : Int32)) (fun x37 =>
  some (.inl (x37, μ36))))))))))))
  else (
  dw_nm (x4 + (1 : Int32)) (fun x23 =>
  some (.inl (x23, μ5)))))
  else (
  dw_nm (x4 + (1 : Int32)) (fun x21 =>
  some (.inl (x21, μ5)))))))))) (fun k48 =>
  dw_jm (k48 (0 : Int32)) (fun k47 =>
  if r8 = (2 : Int32) then (
  dw_bd (fX10_pipeOf μ5 x4 (6 : Int32)) (fun r40 =>
  if r40 = 0 then (
  k48 (1 : Int32))
  else (
  k47)))
  else (
  k47)))))
def sX10_seep_2  (x1 : Int32) (μ2 : dw_M) : Option ((Int32 × dw_M) ⊕ ((dw_M))) :=
  if (fX10_places μ2) ≤ x1 then (
  some (.inr μ2))
  else (
  dw_bd (dw_wh (fun v => sX10_seep_12 x1 v.1 v.2) 1000 ((0 : Int32), μ2))
    (fun μ42 => dw_nm (x1 + (1 : Int32)) (fun x43 =>
  some (.inl (x43, μ42)))))
def fX10_seep (μ : dw_M) : Option (dw_M) :=
  dw_bd (dw_wh (fun v => sX10_seep_2 v.1 v.2) 1000 ((0 : Int32), μ))
    (fun μ44 => some μ44)
set_option maxHeartbeats 4000000 in
set_option maxRecDepth 100000 in
theorem kX10_seep (l : Launch) (Γ : dw_G) (hj : dw_inj Γ) (μ : dw_M)  {ν : dw_M} (h : fX10_seep μ = some ν) : Met l yX10_seep (dw_ws yX10_seep cX10_seep 5 none) (dw_rm 4 91) (dw_P Γ ([.ref (dw_ad Γ 143)] : List Value) μ) (dw_Qv Γ ν) 0 0 (dw_A Γ) := by
  refine dw_met (own := RX10) rfl rfl (Nat.le_of_ble_eq_true rfl) hj ?_
  intro p e s m below meth c C0 hr hlk Z ls hl
  have hx := C0.1
  have hb := C0.2.1
  have hl : lv_has ls 5 [(0, .ref (dw_ad Γ 143))] := hl
  suffices key : ∀ (H : Heap) (locs : List Loc), dw_Z Γ (dw_A Γ) s.heap μ H locs → W p l e (dw_rm 4 91) s m ([.ref (dw_ad Γ 143)] : List Value).toArray below meth c H locs 0 0 (MQ below (dw_Qv Γ ν) ([.ref (dw_ad Γ 143)] : List Value).toArray s 0 0 (dw_A Γ)) (F0 m 0 ls []) from key _ _ Z
  clear Z
  intro H locs Z
  unfold fX10_seep at h
  refine lv_iconst (v := (0 : Int32)) hx hb dX10_seep_0 (by decide) ?_
  refine lv_istore_n (lv' := [(1, .int (0 : Int32)), (0, .ref (dw_ad Γ 143))]) hx hb dX10_seep_1 rfl hl (by decide) rfl (fun ls hl => ?_)
  obtain ⟨kc2, ekc2, h⟩ := dw_bdK h
  have E2 : ∀ (μ44 : dw_M) (H : Heap) (locs : List Loc) (ls : Array Slot), dw_Z Γ (dw_A Γ) s.heap μ44 H locs → lv_has ls 5 [] → kc2 μ44 = some ν → W p l e (dw_rm 4 91) s m ([.ref (dw_ad Γ 143)] : List Value).toArray below meth c H locs 0 0 (MQ below (dw_Qv Γ ν) ([.ref (dw_ad Γ 143)] : List Value).toArray s 0 0 (dw_A Γ)) (F0 m 162 ls []) := by
    intro μ44 H locs ls Z hl h
    rw [ekc2] at h
    dsimp only at h
    obtain rfl := dw_s1 h
    exact dw_vret C0 Z hr hlk dX10_seep_162
  have L2 : ∀ (n2 : Nat) (x1 : Int32) (μ2 : dw_M) (H : Heap) (locs : List Loc) (ls : Array Slot), dw_Z Γ (dw_A Γ) s.heap μ2 H locs → lv_has ls 5 [(0, .ref (dw_ad Γ 143)), (1, .int x1)] → dw_bd (dw_wh (fun v => sX10_seep_2 v.1 v.2) n2 (x1, μ2)) kc2 = some ν → W p l e (dw_rm 4 91) s m ([.ref (dw_ad Γ 143)] : List Value).toArray below meth c H locs 0 0 (MQ below (dw_Qv Γ ν) ([.ref (dw_ad Γ 143)] : List Value).toArray s 0 0 (dw_A Γ)) (F0 m 2 ls []) := by
    clear h
    intro n2
    induction n2 with
    | zero =>
      intro x1 μ2 H locs ls Z hl h
      exact (dw_wh0 h).elim
    | succ n2 ih2 =>
      intro x1 μ2 H locs ls Z hl h
      obtain ⟨q2, hs, hq2⟩ := dw_whB h
      have h : sX10_seep_2 x1 μ2 = some q2 := hs
      unfold sX10_seep_2 at h
      refine lv_iload_n hx hb dX10_seep_2 rfl (lv_at hl 1 rfl) ?_
      refine lv_aload_n hx hb dX10_seep_3 rfl (lv_at hl 0 rfl) ?_
      refine dw_cVi C0 Z dw_hA (dw_lt dw_kc143 (by decide)) (dw_cz10 dw_kc143) rfl (As := []) (rest := [.int x1]) (kX10_places l Γ hj μ2 rfl) (dw_gV tw_lX10_25 tw_vX10_places tw_eX10_places tw_iX10 tw_kX10_places) dw_hX10_places ⟨Nat.le_of_ble_eq_true rfl, Nat.le_of_ble_eq_true rfl⟩ ⟨Nat.zero_le _, Nat.zero_le _⟩ hl.1 (Nat.le_of_ble_eq_true rfl) rfl dX10_seep_4 (fun H locs Z => ?_)
      refine lv_icmp_ge (tgt := 162) hx hb dX10_seep_7 (by decide) (fun c3 => ?_) (fun c3 => ?_)
      · have h := dw_ifT c3 h
        obtain rfl := dw_s1 h
        exact E2  μ2 H locs ls Z (lv_sub hl [] rfl) hq2
      · have h := dw_ifF c3 h
        refine lv_iconst (v := (0 : Int32)) hx hb dX10_seep_10 (by decide) ?_
        refine lv_istore_n (lv' := [(2, .int (0 : Int32)), (0, .ref (dw_ad Γ 143)), (1, .int x1)]) hx hb dX10_seep_11 rfl hl (by decide) rfl (fun ls hl => ?_)
        obtain ⟨kc12, ekc12, h⟩ := dw_bdK h
        have E12 : ∀ (μ42 : dw_M) (H : Heap) (locs : List Loc) (ls : Array Slot), dw_Z Γ (dw_A Γ) s.heap μ42 H locs → lv_has ls 5 [(0, .ref (dw_ad Γ 143)), (1, .int x1)] → kc12 μ42 = some q2 → W p l e (dw_rm 4 91) s m ([.ref (dw_ad Γ 143)] : List Value).toArray below meth c H locs 0 0 (MQ below (dw_Qv Γ ν) ([.ref (dw_ad Γ 143)] : List Value).toArray s 0 0 (dw_A Γ)) (F0 m 156 ls []) := by
          intro μ42 H locs ls Z hl h
          rw [ekc12] at h
          dsimp only at h
          obtain ⟨x43, ex43⟩ := dw_eg (x1 + (1 : Int32))
          have h := dw_nmS ex43 h
          refine lv_iinc (v := x43) (lv' := [(1, .int x43), (0, .ref (dw_ad Γ 143))]) hx hb dX10_seep_156 hl (k := 1) rfl (by rw [ex43]; rfl) (by decide) rfl (fun ls hl => ?_)
          refine lv_goto (tgt := 2) hx hb dX10_seep_159 (by decide) ?_
          obtain rfl := dw_s1 h
          exact ih2 x43 μ42 H locs ls Z (lv_sub hl [1, 0] rfl) hq2
        have L12 : ∀ (n12 : Nat) (x4 : Int32) (μ5 : dw_M) (H : Heap) (locs : List Loc) (ls : Array Slot), dw_Z Γ (dw_A Γ) s.heap μ5 H locs → lv_has ls 5 [(0, .ref (dw_ad Γ 143)), (1, .int x1), (2, .int x4)] → dw_bd (dw_wh (fun v => sX10_seep_12 x1 v.1 v.2) n12 (x4, μ5)) kc12 = some q2 → W p l e (dw_rm 4 91) s m ([.ref (dw_ad Γ 143)] : List Value).toArray below meth c H locs 0 0 (MQ below (dw_Qv Γ ν) ([.ref (dw_ad Γ 143)] : List Value).toArray s 0 0 (dw_A Γ)) (F0 m 12 ls []) := by
          clear h
          intro n12
          induction n12 with
          | zero =>
            intro x4 μ5 H locs ls Z hl h
            exact (dw_wh0 h).elim
          | succ n12 ih12 =>
            intro x4 μ5 H locs ls Z hl h
            obtain ⟨q12, hs, hq12⟩ := dw_whB h
            have h : sX10_seep_12 x1 x4 μ5 = some q12 := hs
            unfold sX10_seep_12 at h
            refine lv_iload_n hx hb dX10_seep_12 rfl (lv_at hl 2 rfl) ?_
            refine lv_aload_n hx hb dX10_seep_13 rfl (lv_at hl 0 rfl) ?_
            refine dw_g10_0 (t := 144) C0 Z dw_kc143 tw_fX10_7 rfl dX10_seep_14 ?_
            refine lv_bipush (v := (13 : Int32)) hx hb dX10_seep_17 (by decide) ?_
            refine dw_ald C0 Z dw_kc144 dw_lc144 (by decide) dX10_seep_19 ?_
            refine lv_icmp_ge (tgt := 156) hx hb dX10_seep_20 (by decide) (fun c6 => ?_) (fun c6 => ?_)
            · have h := dw_ifT c6 h
              obtain rfl := dw_s1 h
              exact E12  μ5 H locs ls Z (lv_sub hl [0, 1] rfl) hq12
            · have h := dw_ifF c6 h
              refine lv_aload_n hx hb dX10_seep_23 rfl (lv_at hl 0 rfl) ?_
              refine lv_iload_n hx hb dX10_seep_24 rfl (lv_at hl 2 rfl) ?_
              refine lv_iconst (v := (0 : Int32)) hx hb dX10_seep_25 (by decide) ?_
              obtain ⟨r8, hc7, h⟩ := dw_bdS h
              refine dw_cVi C0 Z dw_hA (dw_lt dw_kc143 (by decide)) (dw_cz10 dw_kc143) rfl (As := [.int x4, .int (0 : Int32)]) (rest := []) (kX10_pipeOf l Γ hj μ5 x4 (0 : Int32) hc7) (dw_gV tw_lX10_55 tw_vX10_pipeOf tw_eX10_pipeOf tw_iX10 tw_kX10_pipeOf) dw_hX10_pipeOf ⟨Nat.le_of_ble_eq_true rfl, Nat.le_of_ble_eq_true rfl⟩ ⟨Nat.zero_le _, Nat.zero_le _⟩ hl.1 (Nat.le_of_ble_eq_true rfl) rfl dX10_seep_26 (fun H locs Z => ?_)
              refine lv_iconst (v := (2 : Int32)) hx hb dX10_seep_29 (by decide) ?_
              obtain ⟨k48, ek48, h⟩ := dw_jnS h
              have J48 : ∀ (x9 : Int32) (H : Heap) (locs : List Loc) (ls : Array Slot), dw_Z Γ (dw_A Γ) s.heap μ5 H locs → lv_has ls 5 [(0, .ref (dw_ad Γ 143)), (1, .int x1), (2, .int x4)] → k48 x9 = some q12 → W p l e (dw_rm 4 91) s m ([.ref (dw_ad Γ 143)] : List Value).toArray below meth c H locs 0 0 (MQ below (dw_Qv Γ ν) ([.ref (dw_ad Γ 143)] : List Value).toArray s 0 0 (dw_A Γ)) (F0 m 48 ls [.int x9]) := by
                clear h
                intro x9 H locs ls Z hl h
                rw [ek48] at h
                dsimp only at h
                refine lv_istore_n (lv' := [(3, .int x9), (0, .ref (dw_ad Γ 143)), (1, .int x1), (2, .int x4)]) hx hb dX10_seep_48 rfl hl (by decide) rfl (fun ls hl => ?_)
                refine lv_aload_n hx hb dX10_seep_49 rfl (lv_at hl 1 rfl) ?_
                refine lv_iload_n hx hb dX10_seep_50 rfl (lv_at hl 3 rfl) ?_
                obtain ⟨r11, hc10, h⟩ := dw_bdS h
                refine dw_cVi C0 Z dw_hA (dw_lt dw_kc143 (by decide)) (dw_cz10 dw_kc143) rfl (As := [.int x4]) (rest := []) (kX10_isLateral l Γ hj μ5 x4 hc10) (dw_gV tw_lX10_89 tw_vX10_isLateral tw_eX10_isLateral tw_iX10 tw_kX10_isLateral) dw_hX10_isLateral ⟨Nat.le_of_ble_eq_true rfl, Nat.le_of_ble_eq_true rfl⟩ ⟨Nat.zero_le _, Nat.zero_le _⟩ hl.1 (Nat.le_of_ble_eq_true rfl) rfl dX10_seep_51 (fun H locs Z => ?_)
                refine lv_if_eq (tgt := 150) hx hb dX10_seep_54 (by decide) (fun c12 => ?_) (fun c12 => ?_)
                · have h := dw_ifT c12 h
                  obtain ⟨x13, ex13⟩ := dw_eg (x4 + (1 : Int32))
                  have h := dw_nmS ex13 h
                  refine lv_iinc (v := x13) (lv' := [(2, .int x13), (3, .int x9), (0, .ref (dw_ad Γ 143)), (1, .int x1)]) hx hb dX10_seep_150 hl (k := 3) rfl (by rw [ex13]; rfl) (by decide) rfl (fun ls hl => ?_)
                  refine lv_goto (tgt := 12) hx hb dX10_seep_153 (by decide) ?_
                  obtain rfl := dw_s1 h
                  exact ih12 x13 μ5 H locs ls Z (lv_sub hl [2, 3, 0] rfl) hq12
                · have h := dw_ifF c12 h
                  refine lv_aload_n hx hb dX10_seep_57 rfl (lv_at hl 1 rfl) ?_
                  refine lv_iload_n hx hb dX10_seep_58 rfl (lv_at hl 3 rfl) ?_
                  refine lv_iload_n hx hb dX10_seep_59 rfl (lv_at hl 2 rfl) ?_
                  obtain ⟨r15, hc14, h⟩ := dw_bdS h
                  refine dw_cVi C0 Z dw_hA (dw_lt dw_kc143 (by decide)) (dw_cz10 dw_kc143) rfl (As := [.int x4, .int x1]) (rest := []) (kX10_stepOf l Γ hj μ5 x4 x1 hc14) (dw_gV tw_lX10_65 tw_vX10_stepOf tw_eX10_stepOf tw_iX10 tw_kX10_stepOf) dw_hX10_stepOf ⟨Nat.le_of_ble_eq_true rfl, Nat.le_of_ble_eq_true rfl⟩ ⟨Nat.zero_le _, Nat.zero_le _⟩ hl.1 (Nat.le_of_ble_eq_true rfl) rfl dX10_seep_60 (fun H locs Z => ?_)
                  refine lv_if_lt (tgt := 150) hx hb dX10_seep_63 (by decide) (fun c16 => ?_) (fun c16 => ?_)
                  · have h := dw_ifT c16 h
                    obtain ⟨x17, ex17⟩ := dw_eg (x4 + (1 : Int32))
                    have h := dw_nmS ex17 h
                    refine lv_iinc (v := x17) (lv' := [(2, .int x17), (3, .int x9), (0, .ref (dw_ad Γ 143)), (1, .int x1)]) hx hb dX10_seep_150 hl (k := 3) rfl (by rw [ex17]; rfl) (by decide) rfl (fun ls hl => ?_)
                    refine lv_goto (tgt := 12) hx hb dX10_seep_153 (by decide) ?_
                    obtain rfl := dw_s1 h
                    exact ih12 x17 μ5 H locs ls Z (lv_sub hl [2, 3, 0] rfl) hq12
                  · have h := dw_ifF c16 h
                    refine lv_aload_n hx hb dX10_seep_66 rfl (lv_at hl 1 rfl) ?_
                    refine lv_iload_n hx hb dX10_seep_67 rfl (lv_at hl 3 rfl) ?_
                    refine lv_bipush (v := (8 : Int32)) hx hb dX10_seep_68 (by decide) ?_
                    obtain ⟨r19, hc18, h⟩ := dw_bdS h
                    refine dw_cVi C0 Z dw_hA (dw_lt dw_kc143 (by decide)) (dw_cz10 dw_kc143) rfl (As := [.int x4, .int (8 : Int32)]) (rest := []) (kX10_pipeOf l Γ hj μ5 x4 (8 : Int32) hc18) (dw_gV tw_lX10_55 tw_vX10_pipeOf tw_eX10_pipeOf tw_iX10 tw_kX10_pipeOf) dw_hX10_pipeOf ⟨Nat.le_of_ble_eq_true rfl, Nat.le_of_ble_eq_true rfl⟩ ⟨Nat.zero_le _, Nat.zero_le _⟩ hl.1 (Nat.le_of_ble_eq_true rfl) rfl dX10_seep_70 (fun H locs Z => ?_)
                    refine lv_if_ne (tgt := 150) hx hb dX10_seep_73 (by decide) (fun c20 => ?_) (fun c20 => ?_)
                    · have h := dw_ifF c20 h
                      obtain ⟨x21, ex21⟩ := dw_eg (x4 + (1 : Int32))
                      have h := dw_nmS ex21 h
                      refine lv_iinc (v := x21) (lv' := [(2, .int x21), (3, .int x9), (0, .ref (dw_ad Γ 143)), (1, .int x1)]) hx hb dX10_seep_150 hl (k := 3) rfl (by rw [ex21]; rfl) (by decide) rfl (fun ls hl => ?_)
                      refine lv_goto (tgt := 12) hx hb dX10_seep_153 (by decide) ?_
                      obtain rfl := dw_s1 h
                      exact ih12 x21 μ5 H locs ls Z (lv_sub hl [2, 3, 0] rfl) hq12
                    · have h := dw_ifT c20 h
                      refine lv_iload_n hx hb dX10_seep_76 rfl (lv_at hl 0 rfl) ?_
                      refine lv_if_ne (tgt := 150) hx hb dX10_seep_77 (by decide) (fun c22 => ?_) (fun c22 => ?_)
                      · have h := dw_ifF c22 h
                        obtain ⟨x23, ex23⟩ := dw_eg (x4 + (1 : Int32))
                        have h := dw_nmS ex23 h
                        refine lv_iinc (v := x23) (lv' := [(2, .int x23), (3, .int x9), (0, .ref (dw_ad Γ 143)), (1, .int x1)]) hx hb dX10_seep_150 hl (k := 3) rfl (by rw [ex23]; rfl) (by decide) rfl (fun ls hl => ?_)
                        refine lv_goto (tgt := 12) hx hb dX10_seep_153 (by decide) ?_
                        obtain rfl := dw_s1 h
                        exact ih12 x23 μ5 H locs ls Z (lv_sub hl [2, 3, 0] rfl) hq12
                      · have h := dw_ifT c22 h
                        refine lv_aload_n hx hb dX10_seep_80 rfl (lv_at hl 1 rfl) ?_
                        refine dw_g10_0 (t := 144) C0 Z dw_kc143 tw_fX10_7 rfl dX10_seep_81 ?_
                        refine lv_sipush (v := (140 : Int32)) hx hb dX10_seep_84 (by decide) ?_
                        refine lv_iload_n hx hb dX10_seep_87 rfl (lv_at hl 2 rfl) ?_
                        refine lv_iadd hx hb dX10_seep_88 ?_
                        obtain ⟨g24, h⟩ := dw_gdS h
                        refine dw_ald C0 Z dw_kc144 dw_lc144 g24 dX10_seep_89 ?_
                        refine lv_aload_n hx hb dX10_seep_90 rfl (lv_at hl 1 rfl) ?_
                        refine lv_iload_n hx hb dX10_seep_91 rfl (lv_at hl 2 rfl) ?_
                        refine lv_iconst (v := (1 : Int32)) hx hb dX10_seep_92 (by decide) ?_
                        obtain ⟨r26, hc25, h⟩ := dw_bdS h
                        refine dw_cVi C0 Z dw_hA (dw_lt dw_kc143 (by decide)) (dw_cz10 dw_kc143) rfl (As := [.int x1, .int (1 : Int32)]) (rest := [.int (μ5.1 144 ((140 : Int32) + x1).toNatClampNeg)]) (kX10_soilOf l Γ hj μ5 x1 (1 : Int32) hc25) (dw_gV tw_lX10_86 tw_vX10_soilOf tw_eX10_soilOf tw_iX10 tw_kX10_soilOf) dw_hX10_soilOf ⟨Nat.le_of_ble_eq_true rfl, Nat.le_of_ble_eq_true rfl⟩ ⟨Nat.zero_le _, Nat.zero_le _⟩ hl.1 (Nat.le_of_ble_eq_true rfl) rfl dX10_seep_93 (fun H locs Z => ?_)
                        refine lv_imul hx hb dX10_seep_96 ?_
                        refine lv_bipush (v := (100 : Int32)) hx hb dX10_seep_97 (by decide) ?_
                        refine lv_idiv hx hb dX10_seep_99 (by decide) ?_
                        refine lv_aload_n hx hb dX10_seep_100 rfl (lv_at hl 1 rfl) ?_
                        refine lv_iload_n hx hb dX10_seep_101 rfl (lv_at hl 3 rfl) ?_
                        obtain ⟨r28, hc27, h⟩ := dw_bdS h
                        refine dw_cVi C0 Z dw_hA (dw_lt dw_kc143 (by decide)) (dw_cz10 dw_kc143) rfl (As := [.int x4]) (rest := [.int (((μ5.1 144 ((140 : Int32) + x1).toNatClampNeg) * r26) / (100 : Int32))]) (kX10_holds l Γ hj μ5 x4 hc27) (dw_gV tw_lX10_80 tw_vX10_holds tw_eX10_holds tw_iX10 tw_kX10_holds) dw_hX10_holds ⟨Nat.le_of_ble_eq_true rfl, Nat.le_of_ble_eq_true rfl⟩ ⟨Nat.zero_le _, Nat.zero_le _⟩ hl.1 (Nat.le_of_ble_eq_true rfl) rfl dX10_seep_102 (fun H locs Z => ?_)
                        refine lv_aload_n hx hb dX10_seep_105 rfl (lv_at hl 1 rfl) ?_
                        refine lv_iload_n hx hb dX10_seep_106 rfl (lv_at hl 3 rfl) ?_
                        refine lv_bipush (v := (9 : Int32)) hx hb dX10_seep_107 (by decide) ?_
                        obtain ⟨r30, hc29, h⟩ := dw_bdS h
                        refine dw_cVi C0 Z dw_hA (dw_lt dw_kc143 (by decide)) (dw_cz10 dw_kc143) rfl (As := [.int x4, .int (9 : Int32)]) (rest := [.int r28, .int (((μ5.1 144 ((140 : Int32) + x1).toNatClampNeg) * r26) / (100 : Int32))]) (kX10_pipeOf l Γ hj μ5 x4 (9 : Int32) hc29) (dw_gV tw_lX10_55 tw_vX10_pipeOf tw_eX10_pipeOf tw_iX10 tw_kX10_pipeOf) dw_hX10_pipeOf ⟨Nat.le_of_ble_eq_true rfl, Nat.le_of_ble_eq_true rfl⟩ ⟨Nat.zero_le _, Nat.zero_le _⟩ hl.1 (Nat.le_of_ble_eq_true rfl) rfl dX10_seep_109 (fun H locs Z => ?_)
                        refine lv_isub hx hb dX10_seep_112 ?_
                        refine dw_cSi C0 Z dw_hA (As := [.int (((μ5.1 144 ((140 : Int32) + x1).toNatClampNeg) * r26) / (100 : Int32)), .int (r28 - r30)]) (rest := []) (kX10_lesser l Γ hj μ5 (((μ5.1 144 ((140 : Int32) + x1).toNatClampNeg) * r26) / (100 : Int32)) (r28 - r30) rfl) (dw_gS tw_lX10_77 tw_sX10_lesser tw_iX10 tw_kX10_lesser) dw_hX10_lesser ⟨Nat.le_of_ble_eq_true rfl, Nat.le_of_ble_eq_true rfl⟩ ⟨Nat.zero_le _, Nat.zero_le _⟩ hl.1 (Nat.le_of_ble_eq_true rfl) rfl dX10_seep_113 (fun H locs Z => ?_)
                        refine lv_topi (fun x31 ex31 => ?_)
                        have h := dw_nmS ex31 h
                        refine lv_istore (lv' := [(4, .int x31), (3, .int x9), (0, .ref (dw_ad Γ 143)), (1, .int x1), (2, .int x4)]) hx hb dX10_seep_116 hl (by decide) rfl (fun ls hl => ?_)
                        refine lv_aload_n hx hb dX10_seep_118 rfl (lv_at hl 2 rfl) ?_
                        refine dw_g10_0 (t := 144) C0 Z dw_kc143 tw_fX10_7 rfl dX10_seep_119 ?_
                        refine lv_sipush (v := (140 : Int32)) hx hb dX10_seep_122 (by decide) ?_
                        refine lv_iload_n hx hb dX10_seep_125 rfl (lv_at hl 3 rfl) ?_
                        refine lv_iadd hx hb dX10_seep_126 ?_
                        refine lv_dup2_11 hx hb dX10_seep_127 rfl rfl ?_
                        refine dw_ald C0 Z dw_kc144 dw_lc144 g24 dX10_seep_128 ?_
                        refine lv_iload hx hb dX10_seep_129 (lv_at hl 0 rfl) ?_
                        refine lv_isub hx hb dX10_seep_131 ?_
                        refine dw_ast C0 Z dw_hA dw_kc144 dw_lc144 g24 dX10_seep_132 (fun μ32 eμ32 H locs Z => ?_)
                        have h := dw_nmS eμ32 h
                        refine lv_aload_n hx hb dX10_seep_133 rfl (lv_at hl 2 rfl) ?_
                        refine lv_iload_n hx hb dX10_seep_134 rfl (lv_at hl 4 rfl) ?_
                        refine lv_bipush (v := (9 : Int32)) hx hb dX10_seep_135 (by decide) ?_
                        refine lv_aload_n hx hb dX10_seep_137 rfl (lv_at hl 2 rfl) ?_
                        refine lv_iload_n hx hb dX10_seep_138 rfl (lv_at hl 4 rfl) ?_
                        refine lv_bipush (v := (9 : Int32)) hx hb dX10_seep_139 (by decide) ?_
                        obtain ⟨r34, hc33, h⟩ := dw_bdS h
                        refine dw_cVi C0 Z dw_hA (dw_lt dw_kc143 (by decide)) (dw_cz10 dw_kc143) rfl (As := [.int x4, .int (9 : Int32)]) (rest := [.int (9 : Int32), .int x4, .ref (dw_ad Γ 143)]) (kX10_pipeOf l Γ hj μ32 x4 (9 : Int32) hc33) (dw_gV tw_lX10_55 tw_vX10_pipeOf tw_eX10_pipeOf tw_iX10 tw_kX10_pipeOf) dw_hX10_pipeOf ⟨Nat.le_of_ble_eq_true rfl, Nat.le_of_ble_eq_true rfl⟩ ⟨Nat.zero_le _, Nat.zero_le _⟩ hl.1 (Nat.le_of_ble_eq_true rfl) rfl dX10_seep_141 (fun H locs Z => ?_)
                        refine lv_iload hx hb dX10_seep_144 (lv_at hl 0 rfl) ?_
                        refine lv_iadd hx hb dX10_seep_146 ?_
                        obtain ⟨μ36, hc35, h⟩ := dw_bdS h
                        refine dw_cVv C0 Z dw_hA (dw_lt dw_kc143 (by decide)) (dw_cz10 dw_kc143) rfl (As := [.int x4, .int (9 : Int32), .int (r34 + x31)]) (rest := []) (kX10_setPipe l Γ hj μ32 x4 (9 : Int32) (r34 + x31) hc35) (dw_gV tw_lX10_51 tw_vX10_setPipe tw_eX10_setPipe tw_iX10 tw_kX10_setPipe) dw_hX10_setPipe ⟨Nat.le_of_ble_eq_true rfl, Nat.le_of_ble_eq_true rfl⟩ ⟨Nat.zero_le _, Nat.zero_le _⟩ hl.1 (Nat.le_of_ble_eq_true rfl) rfl dX10_seep_147 (fun H locs Z => ?_)
                        obtain ⟨x37, ex37⟩ := dw_eg (x4 + (1 : Int32))
                        have h := dw_nmS ex37 h
                        refine lv_iinc (v := x37) (lv' := [(2, .int x37), (4, .int x31), (3, .int x9), (0, .ref (dw_ad Γ 143)), (1, .int x1)]) hx hb dX10_seep_150 hl (k := 4) rfl (by rw [ex37]; rfl) (by decide) rfl (fun ls hl => ?_)
                        refine lv_goto (tgt := 12) hx hb dX10_seep_153 (by decide) ?_
                        obtain rfl := dw_s1 h
                        exact ih12 x37 μ36 H locs ls Z (lv_sub hl [3, 4, 0] rfl) hq12
              obtain ⟨k47, ek47, h⟩ := dw_jnS h
              have J47 : ∀ (H : Heap) (locs : List Loc) (ls : Array Slot), dw_Z Γ (dw_A Γ) s.heap μ5 H locs → lv_has ls 5 [(0, .ref (dw_ad Γ 143)), (1, .int x1), (2, .int x4)] → k47 = some q12 → W p l e (dw_rm 4 91) s m ([.ref (dw_ad Γ 143)] : List Value).toArray below meth c H locs 0 0 (MQ below (dw_Qv Γ ν) ([.ref (dw_ad Γ 143)] : List Value).toArray s 0 0 (dw_A Γ)) (F0 m 47 ls []) := by
                clear h
                intro  H locs ls Z hl h
                rw [ek47] at h
                refine lv_iconst (v := (0 : Int32)) hx hb dX10_seep_47 (by decide) ?_
                exact J48 (0 : Int32) H locs ls Z (lv_sub hl [0, 1, 2] rfl) h
              refine lv_icmp_ne (tgt := 47) hx hb dX10_seep_30 (by decide) (fun c38 => ?_) (fun c38 => ?_)
              · have h := dw_ifF c38 h
                exact J47 H locs ls Z (lv_sub hl [0, 1, 2] rfl) h
              · have h := dw_ifT c38 h
                refine lv_aload_n hx hb dX10_seep_33 rfl (lv_at hl 0 rfl) ?_
                refine lv_iload_n hx hb dX10_seep_34 rfl (lv_at hl 2 rfl) ?_
                refine lv_bipush (v := (6 : Int32)) hx hb dX10_seep_35 (by decide) ?_
                obtain ⟨r40, hc39, h⟩ := dw_bdS h
                refine dw_cVi C0 Z dw_hA (dw_lt dw_kc143 (by decide)) (dw_cz10 dw_kc143) rfl (As := [.int x4, .int (6 : Int32)]) (rest := []) (kX10_pipeOf l Γ hj μ5 x4 (6 : Int32) hc39) (dw_gV tw_lX10_55 tw_vX10_pipeOf tw_eX10_pipeOf tw_iX10 tw_kX10_pipeOf) dw_hX10_pipeOf ⟨Nat.le_of_ble_eq_true rfl, Nat.le_of_ble_eq_true rfl⟩ ⟨Nat.zero_le _, Nat.zero_le _⟩ hl.1 (Nat.le_of_ble_eq_true rfl) rfl dX10_seep_37 (fun H locs Z => ?_)
                refine lv_if_ne (tgt := 47) hx hb dX10_seep_40 (by decide) (fun c41 => ?_) (fun c41 => ?_)
                · have h := dw_ifF c41 h
                  exact J47 H locs ls Z (lv_sub hl [0, 1, 2] rfl) h
                · have h := dw_ifT c41 h
                  refine lv_iconst (v := (1 : Int32)) hx hb dX10_seep_43 (by decide) ?_
                  refine lv_goto (tgt := 48) hx hb dX10_seep_44 (by decide) ?_
                  exact J48 (1 : Int32) H locs ls Z (lv_sub hl [0, 1, 2] rfl) h
        exact L12 1000 (0 : Int32) μ2 H locs ls Z (lv_sub hl [1, 2, 0] rfl) h
  exact L2 1000 (0 : Int32) μ H locs ls Z (lv_sub hl [1, 0] rfl) h

def fX10_pass (μ : dw_M) (a1 : Int32) : Option (Int32 × dw_M) :=
  dw_bd (fX10_pipeOf μ a1 (7 : Int32)) (fun r2 =>
  dw_jm (fun (x3 : Int32) =>
  dw_bd (fX10_setPipe μ a1 (10 : Int32) (0 : Int32)) (fun μ5 =>
  dw_bd (fX10_pipeOf μ5 a1 (8 : Int32)) (fun r7 =>
  if r7 = (1 : Int32) then (
  some ((0 : Int32), μ5))
  else (
  if r2 < 0 then (
  some ((0 : Int32), μ5))
  else (
  if x3 = 0 then (
  dw_bd (fX10_pipeOf μ5 a1 (9 : Int32)) (fun r12 =>
  dw_bd (fX10_bears μ5 a1) (fun r14 =>
  dw_nm (fX10_lesser r12 r14) (fun x15 =>
  dw_jm (fun (x16 : Int32) (μ17 : dw_M) =>
  dw_bd (fX10_pipeOf μ17 a1 (9 : Int32)) (fun r19 =>
  dw_bd (fX10_setPipe μ17 a1 (9 : Int32) (r19 - x16)) (fun μ21 =>
  dw_bd (fX10_setPipe μ21 a1 (10 : Int32) x16) (fun μ23 =>
  if (100 : Int32) ≤ r2 then (
  some (x16, μ23))
  else (
  some ((0 : Int32), μ23)))))) (fun k159 =>
  if (100 : Int32) ≤ r2 then (
  dw_gd (dw_ok (((9 : Int32) + r2) - (100 : Int32)) 800) (
  dw_nm (dw_st μ5 144 (((9 : Int32) + r2) - (100 : Int32)).toNatClampNeg ((μ5.1 144 (((9 : Int32) + r2) - (100 : Int32)).toNatClampNeg) + x15)) (fun μ27 =>
  k159 x15 μ27)))
  else (
  dw_bd (fX10_holds μ5 r2) (fun r29 =>
  dw_bd (fX10_pipeOf μ5 r2 (9 : Int32)) (fun r31 =>
  dw_nm (fX10_lesser x15 (r29 - r31)) (fun x32 =>
  dw_bd (fX10_pipeOf μ5 r2 (9 : Int32)) (fun r34 =>
  dw_bd (fX10_setPipe μ5 r2 (9 : Int32) (r34 + x32)) (fun μ36 =>
  k159 x32 μ36)))))))))))
  else (
  some ((0 : Int32), μ5))))))) (fun k49 =>
  dw_jm (k49 (0 : Int32)) (fun k48 =>
  if r2 < (100 : Int32) then (
  k48)
  else (
  dw_gd (dw_ok (((320 : Int32) + r2) - (100 : Int32)) 800) (
  dw_bd (fX10_pipeOf μ a1 (11 : Int32)) (fun r40 =>
  dw_bd (fX10_levelAt μ a1 (r40 - (1 : Int32))) (fun r42 =>
  if (μ.1 144 (((320 : Int32) + r2) - (100 : Int32)).toNatClampNeg) ≤ r42 then (
  k48)
  else (
  k49 (1 : Int32)))))))))
set_option maxHeartbeats 4000000 in
set_option maxRecDepth 100000 in
theorem kX10_pass (l : Launch) (Γ : dw_G) (hj : dw_inj Γ) (μ : dw_M) (a1 : Int32) {r : Int32} {ν : dw_M} (h : fX10_pass μ a1 = some (r, ν)) : Met l yX10_pass (dw_ws yX10_pass cX10_pass 5 (some .int)) (dw_rm 2 44) (dw_P Γ ([.ref (dw_ad Γ 143), .int a1] : List Value) μ) (dw_Qi Γ r ν) 0 0 (dw_A Γ) := by
  refine dw_met (own := RX10) rfl rfl (Nat.le_of_ble_eq_true rfl) hj ?_
  intro p e s m below meth c C0 hr hlk Z ls hl
  have hx := C0.1
  have hb := C0.2.1
  have hl : lv_has ls 5 [(0, .ref (dw_ad Γ 143)), (1, .int a1)] := hl
  suffices key : ∀ (H : Heap) (locs : List Loc), dw_Z Γ (dw_A Γ) s.heap μ H locs → W p l e (dw_rm 2 44) s m ([.ref (dw_ad Γ 143), .int a1] : List Value).toArray below meth c H locs 0 0 (MQ below (dw_Qi Γ r ν) ([.ref (dw_ad Γ 143), .int a1] : List Value).toArray s 0 0 (dw_A Γ)) (F0 m 0 ls []) from key _ _ Z
  clear Z
  intro H locs Z
  unfold fX10_pass at h
  refine lv_aload_n hx hb dX10_pass_0 rfl (lv_at hl 0 rfl) ?_
  refine lv_iload_n hx hb dX10_pass_1 rfl (lv_at hl 1 rfl) ?_
  refine lv_bipush (v := (7 : Int32)) hx hb dX10_pass_2 (by decide) ?_
  obtain ⟨r2, hc1, h⟩ := dw_bdS h
  refine dw_cVi C0 Z dw_hA (dw_lt dw_kc143 (by decide)) (dw_cz10 dw_kc143) rfl (As := [.int a1, .int (7 : Int32)]) (rest := []) (kX10_pipeOf l Γ hj μ a1 (7 : Int32) hc1) (dw_gV tw_lX10_55 tw_vX10_pipeOf tw_eX10_pipeOf tw_iX10 tw_kX10_pipeOf) dw_hX10_pipeOf ⟨Nat.le_of_ble_eq_true rfl, Nat.le_of_ble_eq_true rfl⟩ ⟨Nat.zero_le _, Nat.zero_le _⟩ hl.1 (Nat.le_of_ble_eq_true rfl) rfl dX10_pass_4 (fun H locs Z => ?_)
  refine lv_istore_n (lv' := [(2, .int r2), (0, .ref (dw_ad Γ 143)), (1, .int a1)]) hx hb dX10_pass_7 rfl hl (by decide) rfl (fun ls hl => ?_)
  refine lv_iload_n hx hb dX10_pass_8 rfl (lv_at hl 0 rfl) ?_
  refine lv_bipush (v := (100 : Int32)) hx hb dX10_pass_9 (by decide) ?_
  obtain ⟨k49, ek49, h⟩ := dw_jnS h
  have J49 : ∀ (x3 : Int32) (H : Heap) (locs : List Loc) (ls : Array Slot), dw_Z Γ (dw_A Γ) s.heap μ H locs → lv_has ls 5 [(0, .ref (dw_ad Γ 143)), (1, .int a1), (2, .int r2)] → k49 x3 = some (r, ν) → W p l e (dw_rm 2 44) s m ([.ref (dw_ad Γ 143), .int a1] : List Value).toArray below meth c H locs 0 0 (MQ below (dw_Qi Γ r ν) ([.ref (dw_ad Γ 143), .int a1] : List Value).toArray s 0 0 (dw_A Γ)) (F0 m 49 ls [.int x3]) := by
    clear h
    intro x3 H locs ls Z hl h
    rw [ek49] at h
    dsimp only at h
    refine lv_istore_n (lv' := [(3, .int x3), (0, .ref (dw_ad Γ 143)), (1, .int a1), (2, .int r2)]) hx hb dX10_pass_49 rfl hl (by decide) rfl (fun ls hl => ?_)
    refine lv_aload_n hx hb dX10_pass_50 rfl (lv_at hl 1 rfl) ?_
    refine lv_iload_n hx hb dX10_pass_51 rfl (lv_at hl 2 rfl) ?_
    refine lv_bipush (v := (10 : Int32)) hx hb dX10_pass_52 (by decide) ?_
    refine lv_iconst (v := (0 : Int32)) hx hb dX10_pass_54 (by decide) ?_
    obtain ⟨μ5, hc4, h⟩ := dw_bdS h
    refine dw_cVv C0 Z dw_hA (dw_lt dw_kc143 (by decide)) (dw_cz10 dw_kc143) rfl (As := [.int a1, .int (10 : Int32), .int (0 : Int32)]) (rest := []) (kX10_setPipe l Γ hj μ a1 (10 : Int32) (0 : Int32) hc4) (dw_gV tw_lX10_51 tw_vX10_setPipe tw_eX10_setPipe tw_iX10 tw_kX10_setPipe) dw_hX10_setPipe ⟨Nat.le_of_ble_eq_true rfl, Nat.le_of_ble_eq_true rfl⟩ ⟨Nat.zero_le _, Nat.zero_le _⟩ hl.1 (Nat.le_of_ble_eq_true rfl) rfl dX10_pass_55 (fun H locs Z => ?_)
    refine lv_aload_n hx hb dX10_pass_58 rfl (lv_at hl 1 rfl) ?_
    refine lv_iload_n hx hb dX10_pass_59 rfl (lv_at hl 2 rfl) ?_
    refine lv_bipush (v := (8 : Int32)) hx hb dX10_pass_60 (by decide) ?_
    obtain ⟨r7, hc6, h⟩ := dw_bdS h
    refine dw_cVi C0 Z dw_hA (dw_lt dw_kc143 (by decide)) (dw_cz10 dw_kc143) rfl (As := [.int a1, .int (8 : Int32)]) (rest := []) (kX10_pipeOf l Γ hj μ5 a1 (8 : Int32) hc6) (dw_gV tw_lX10_55 tw_vX10_pipeOf tw_eX10_pipeOf tw_iX10 tw_kX10_pipeOf) dw_hX10_pipeOf ⟨Nat.le_of_ble_eq_true rfl, Nat.le_of_ble_eq_true rfl⟩ ⟨Nat.zero_le _, Nat.zero_le _⟩ hl.1 (Nat.le_of_ble_eq_true rfl) rfl dX10_pass_62 (fun H locs Z => ?_)
    refine lv_iconst (v := (1 : Int32)) hx hb dX10_pass_65 (by decide) ?_
    refine lv_icmp_eq (tgt := 77) hx hb dX10_pass_66 (by decide) (fun c8 => ?_) (fun c8 => ?_)
    · have h := dw_ifT c8 h
      refine lv_iconst (v := (0 : Int32)) hx hb dX10_pass_77 (by decide) ?_
      obtain ⟨rfl, rfl⟩ := dw_s2 h
      exact dw_iret C0 Z hr hlk dX10_pass_78
    · have h := dw_ifF c8 h
      refine lv_iload_n hx hb dX10_pass_69 rfl (lv_at hl 3 rfl) ?_
      refine lv_if_lt (tgt := 77) hx hb dX10_pass_70 (by decide) (fun c9 => ?_) (fun c9 => ?_)
      · have h := dw_ifT c9 h
        refine lv_iconst (v := (0 : Int32)) hx hb dX10_pass_77 (by decide) ?_
        obtain ⟨rfl, rfl⟩ := dw_s2 h
        exact dw_iret C0 Z hr hlk dX10_pass_78
      · have h := dw_ifF c9 h
        refine lv_iload_n hx hb dX10_pass_73 rfl (lv_at hl 0 rfl) ?_
        refine lv_if_eq (tgt := 79) hx hb dX10_pass_74 (by decide) (fun c10 => ?_) (fun c10 => ?_)
        · have h := dw_ifT c10 h
          refine lv_aload_n hx hb dX10_pass_79 rfl (lv_at hl 1 rfl) ?_
          refine lv_iload_n hx hb dX10_pass_80 rfl (lv_at hl 2 rfl) ?_
          refine lv_bipush (v := (9 : Int32)) hx hb dX10_pass_81 (by decide) ?_
          obtain ⟨r12, hc11, h⟩ := dw_bdS h
          refine dw_cVi C0 Z dw_hA (dw_lt dw_kc143 (by decide)) (dw_cz10 dw_kc143) rfl (As := [.int a1, .int (9 : Int32)]) (rest := []) (kX10_pipeOf l Γ hj μ5 a1 (9 : Int32) hc11) (dw_gV tw_lX10_55 tw_vX10_pipeOf tw_eX10_pipeOf tw_iX10 tw_kX10_pipeOf) dw_hX10_pipeOf ⟨Nat.le_of_ble_eq_true rfl, Nat.le_of_ble_eq_true rfl⟩ ⟨Nat.zero_le _, Nat.zero_le _⟩ hl.1 (Nat.le_of_ble_eq_true rfl) rfl dX10_pass_83 (fun H locs Z => ?_)
          refine lv_aload_n hx hb dX10_pass_86 rfl (lv_at hl 1 rfl) ?_
          refine lv_iload_n hx hb dX10_pass_87 rfl (lv_at hl 2 rfl) ?_
          obtain ⟨r14, hc13, h⟩ := dw_bdS h
          refine dw_cVi C0 Z dw_hA (dw_lt dw_kc143 (by decide)) (dw_cz10 dw_kc143) rfl (As := [.int a1]) (rest := [.int r12]) (kX10_bears l Γ hj μ5 a1 hc13) (dw_gV tw_lX10_74 tw_vX10_bears tw_eX10_bears tw_iX10 tw_kX10_bears) dw_hX10_bears ⟨Nat.le_of_ble_eq_true rfl, Nat.le_of_ble_eq_true rfl⟩ ⟨Nat.zero_le _, Nat.zero_le _⟩ hl.1 (Nat.le_of_ble_eq_true rfl) rfl dX10_pass_88 (fun H locs Z => ?_)
          refine dw_cSi C0 Z dw_hA (As := [.int r12, .int r14]) (rest := []) (kX10_lesser l Γ hj μ5 r12 r14 rfl) (dw_gS tw_lX10_77 tw_sX10_lesser tw_iX10 tw_kX10_lesser) dw_hX10_lesser ⟨Nat.le_of_ble_eq_true rfl, Nat.le_of_ble_eq_true rfl⟩ ⟨Nat.zero_le _, Nat.zero_le _⟩ hl.1 (Nat.le_of_ble_eq_true rfl) rfl dX10_pass_91 (fun H locs Z => ?_)
          refine lv_topi (fun x15 ex15 => ?_)
          have h := dw_nmS ex15 h
          refine lv_istore (lv' := [(4, .int x15), (3, .int x3), (0, .ref (dw_ad Γ 143)), (1, .int a1), (2, .int r2)]) hx hb dX10_pass_94 hl (by decide) rfl (fun ls hl => ?_)
          refine lv_iload_n hx hb dX10_pass_96 rfl (lv_at hl 4 rfl) ?_
          refine lv_bipush (v := (100 : Int32)) hx hb dX10_pass_97 (by decide) ?_
          obtain ⟨k159, ek159, h⟩ := dw_jnS h
          have J159 : ∀ (x16 : Int32) (μ17 : dw_M) (H : Heap) (locs : List Loc) (ls : Array Slot), dw_Z Γ (dw_A Γ) s.heap μ17 H locs → lv_has ls 5 [(0, .ref (dw_ad Γ 143)), (1, .int a1), (2, .int r2), (4, .int x16)] → k159 x16 μ17 = some (r, ν) → W p l e (dw_rm 2 44) s m ([.ref (dw_ad Γ 143), .int a1] : List Value).toArray below meth c H locs 0 0 (MQ below (dw_Qi Γ r ν) ([.ref (dw_ad Γ 143), .int a1] : List Value).toArray s 0 0 (dw_A Γ)) (F0 m 159 ls []) := by
            clear h
            intro x16 μ17 H locs ls Z hl h
            rw [ek159] at h
            dsimp only at h
            refine lv_aload_n hx hb dX10_pass_159 rfl (lv_at hl 0 rfl) ?_
            refine lv_iload_n hx hb dX10_pass_160 rfl (lv_at hl 1 rfl) ?_
            refine lv_bipush (v := (9 : Int32)) hx hb dX10_pass_161 (by decide) ?_
            refine lv_aload_n hx hb dX10_pass_163 rfl (lv_at hl 0 rfl) ?_
            refine lv_iload_n hx hb dX10_pass_164 rfl (lv_at hl 1 rfl) ?_
            refine lv_bipush (v := (9 : Int32)) hx hb dX10_pass_165 (by decide) ?_
            obtain ⟨r19, hc18, h⟩ := dw_bdS h
            refine dw_cVi C0 Z dw_hA (dw_lt dw_kc143 (by decide)) (dw_cz10 dw_kc143) rfl (As := [.int a1, .int (9 : Int32)]) (rest := [.int (9 : Int32), .int a1, .ref (dw_ad Γ 143)]) (kX10_pipeOf l Γ hj μ17 a1 (9 : Int32) hc18) (dw_gV tw_lX10_55 tw_vX10_pipeOf tw_eX10_pipeOf tw_iX10 tw_kX10_pipeOf) dw_hX10_pipeOf ⟨Nat.le_of_ble_eq_true rfl, Nat.le_of_ble_eq_true rfl⟩ ⟨Nat.zero_le _, Nat.zero_le _⟩ hl.1 (Nat.le_of_ble_eq_true rfl) rfl dX10_pass_167 (fun H locs Z => ?_)
            refine lv_iload hx hb dX10_pass_170 (lv_at hl 3 rfl) ?_
            refine lv_isub hx hb dX10_pass_172 ?_
            obtain ⟨μ21, hc20, h⟩ := dw_bdS h
            refine dw_cVv C0 Z dw_hA (dw_lt dw_kc143 (by decide)) (dw_cz10 dw_kc143) rfl (As := [.int a1, .int (9 : Int32), .int (r19 - x16)]) (rest := []) (kX10_setPipe l Γ hj μ17 a1 (9 : Int32) (r19 - x16) hc20) (dw_gV tw_lX10_51 tw_vX10_setPipe tw_eX10_setPipe tw_iX10 tw_kX10_setPipe) dw_hX10_setPipe ⟨Nat.le_of_ble_eq_true rfl, Nat.le_of_ble_eq_true rfl⟩ ⟨Nat.zero_le _, Nat.zero_le _⟩ hl.1 (Nat.le_of_ble_eq_true rfl) rfl dX10_pass_173 (fun H locs Z => ?_)
            refine lv_aload_n hx hb dX10_pass_176 rfl (lv_at hl 0 rfl) ?_
            refine lv_iload_n hx hb dX10_pass_177 rfl (lv_at hl 1 rfl) ?_
            refine lv_bipush (v := (10 : Int32)) hx hb dX10_pass_178 (by decide) ?_
            refine lv_iload hx hb dX10_pass_180 (lv_at hl 3 rfl) ?_
            obtain ⟨μ23, hc22, h⟩ := dw_bdS h
            refine dw_cVv C0 Z dw_hA (dw_lt dw_kc143 (by decide)) (dw_cz10 dw_kc143) rfl (As := [.int a1, .int (10 : Int32), .int x16]) (rest := []) (kX10_setPipe l Γ hj μ21 a1 (10 : Int32) x16 hc22) (dw_gV tw_lX10_51 tw_vX10_setPipe tw_eX10_setPipe tw_iX10 tw_kX10_setPipe) dw_hX10_setPipe ⟨Nat.le_of_ble_eq_true rfl, Nat.le_of_ble_eq_true rfl⟩ ⟨Nat.zero_le _, Nat.zero_le _⟩ hl.1 (Nat.le_of_ble_eq_true rfl) rfl dX10_pass_182 (fun H locs Z => ?_)
            refine lv_iload_n hx hb dX10_pass_185 rfl (lv_at hl 2 rfl) ?_
            refine lv_bipush (v := (100 : Int32)) hx hb dX10_pass_186 (by decide) ?_
            refine lv_icmp_ge (tgt := 195) hx hb dX10_pass_188 (by decide) (fun c24 => ?_) (fun c24 => ?_)
            · have h := dw_ifT c24 h
              refine lv_iload hx hb dX10_pass_195 (lv_at hl 3 rfl) ?_
              obtain ⟨rfl, rfl⟩ := dw_s2 h
              exact dw_iret C0 Z hr hlk dX10_pass_197
            · have h := dw_ifF c24 h
              refine lv_iconst (v := (0 : Int32)) hx hb dX10_pass_191 (by decide) ?_
              refine lv_goto (tgt := 197) hx hb dX10_pass_192 (by decide) ?_
              obtain ⟨rfl, rfl⟩ := dw_s2 h
              exact dw_iret C0 Z hr hlk dX10_pass_197
          refine lv_icmp_ge (tgt := 142) hx hb dX10_pass_99 (by decide) (fun c25 => ?_) (fun c25 => ?_)
          · have h := dw_ifT c25 h
            refine lv_aload_n hx hb dX10_pass_142 rfl (lv_at hl 2 rfl) ?_
            refine dw_g10_0 (t := 144) C0 Z dw_kc143 tw_fX10_7 rfl dX10_pass_143 ?_
            refine lv_bipush (v := (9 : Int32)) hx hb dX10_pass_146 (by decide) ?_
            refine lv_iload_n hx hb dX10_pass_148 rfl (lv_at hl 4 rfl) ?_
            refine lv_iadd hx hb dX10_pass_149 ?_
            refine lv_bipush (v := (100 : Int32)) hx hb dX10_pass_150 (by decide) ?_
            refine lv_isub hx hb dX10_pass_152 ?_
            refine lv_dup2_11 hx hb dX10_pass_153 rfl rfl ?_
            obtain ⟨g26, h⟩ := dw_gdS h
            refine dw_ald C0 Z dw_kc144 dw_lc144 g26 dX10_pass_154 ?_
            refine lv_iload hx hb dX10_pass_155 (lv_at hl 0 rfl) ?_
            refine lv_iadd hx hb dX10_pass_157 ?_
            refine dw_ast C0 Z dw_hA dw_kc144 dw_lc144 g26 dX10_pass_158 (fun μ27 eμ27 H locs Z => ?_)
            have h := dw_nmS eμ27 h
            exact J159 x15 μ27 H locs ls Z (lv_sub hl [2, 3, 4, 0] rfl) h
          · have h := dw_ifF c25 h
            refine lv_iload hx hb dX10_pass_102 (lv_at hl 0 rfl) ?_
            refine lv_aload_n hx hb dX10_pass_104 rfl (lv_at hl 2 rfl) ?_
            refine lv_iload_n hx hb dX10_pass_105 rfl (lv_at hl 4 rfl) ?_
            obtain ⟨r29, hc28, h⟩ := dw_bdS h
            refine dw_cVi C0 Z dw_hA (dw_lt dw_kc143 (by decide)) (dw_cz10 dw_kc143) rfl (As := [.int r2]) (rest := [.int x15]) (kX10_holds l Γ hj μ5 r2 hc28) (dw_gV tw_lX10_80 tw_vX10_holds tw_eX10_holds tw_iX10 tw_kX10_holds) dw_hX10_holds ⟨Nat.le_of_ble_eq_true rfl, Nat.le_of_ble_eq_true rfl⟩ ⟨Nat.zero_le _, Nat.zero_le _⟩ hl.1 (Nat.le_of_ble_eq_true rfl) rfl dX10_pass_106 (fun H locs Z => ?_)
            refine lv_aload_n hx hb dX10_pass_109 rfl (lv_at hl 2 rfl) ?_
            refine lv_iload_n hx hb dX10_pass_110 rfl (lv_at hl 4 rfl) ?_
            refine lv_bipush (v := (9 : Int32)) hx hb dX10_pass_111 (by decide) ?_
            obtain ⟨r31, hc30, h⟩ := dw_bdS h
            refine dw_cVi C0 Z dw_hA (dw_lt dw_kc143 (by decide)) (dw_cz10 dw_kc143) rfl (As := [.int r2, .int (9 : Int32)]) (rest := [.int r29, .int x15]) (kX10_pipeOf l Γ hj μ5 r2 (9 : Int32) hc30) (dw_gV tw_lX10_55 tw_vX10_pipeOf tw_eX10_pipeOf tw_iX10 tw_kX10_pipeOf) dw_hX10_pipeOf ⟨Nat.le_of_ble_eq_true rfl, Nat.le_of_ble_eq_true rfl⟩ ⟨Nat.zero_le _, Nat.zero_le _⟩ hl.1 (Nat.le_of_ble_eq_true rfl) rfl dX10_pass_113 (fun H locs Z => ?_)
            refine lv_isub hx hb dX10_pass_116 ?_
            refine dw_cSi C0 Z dw_hA (As := [.int x15, .int (r29 - r31)]) (rest := []) (kX10_lesser l Γ hj μ5 x15 (r29 - r31) rfl) (dw_gS tw_lX10_77 tw_sX10_lesser tw_iX10 tw_kX10_lesser) dw_hX10_lesser ⟨Nat.le_of_ble_eq_true rfl, Nat.le_of_ble_eq_true rfl⟩ ⟨Nat.zero_le _, Nat.zero_le _⟩ hl.1 (Nat.le_of_ble_eq_true rfl) rfl dX10_pass_117 (fun H locs Z => ?_)
            refine lv_topi (fun x32 ex32 => ?_)
            have h := dw_nmS ex32 h
            refine lv_istore (lv' := [(4, .int x32), (3, .int x3), (0, .ref (dw_ad Γ 143)), (1, .int a1), (2, .int r2)]) hx hb dX10_pass_120 hl (by decide) rfl (fun ls hl => ?_)
            refine lv_aload_n hx hb dX10_pass_122 rfl (lv_at hl 2 rfl) ?_
            refine lv_iload_n hx hb dX10_pass_123 rfl (lv_at hl 4 rfl) ?_
            refine lv_bipush (v := (9 : Int32)) hx hb dX10_pass_124 (by decide) ?_
            refine lv_aload_n hx hb dX10_pass_126 rfl (lv_at hl 2 rfl) ?_
            refine lv_iload_n hx hb dX10_pass_127 rfl (lv_at hl 4 rfl) ?_
            refine lv_bipush (v := (9 : Int32)) hx hb dX10_pass_128 (by decide) ?_
            obtain ⟨r34, hc33, h⟩ := dw_bdS h
            refine dw_cVi C0 Z dw_hA (dw_lt dw_kc143 (by decide)) (dw_cz10 dw_kc143) rfl (As := [.int r2, .int (9 : Int32)]) (rest := [.int (9 : Int32), .int r2, .ref (dw_ad Γ 143)]) (kX10_pipeOf l Γ hj μ5 r2 (9 : Int32) hc33) (dw_gV tw_lX10_55 tw_vX10_pipeOf tw_eX10_pipeOf tw_iX10 tw_kX10_pipeOf) dw_hX10_pipeOf ⟨Nat.le_of_ble_eq_true rfl, Nat.le_of_ble_eq_true rfl⟩ ⟨Nat.zero_le _, Nat.zero_le _⟩ hl.1 (Nat.le_of_ble_eq_true rfl) rfl dX10_pass_130 (fun H locs Z => ?_)
            refine lv_iload hx hb dX10_pass_133 (lv_at hl 0 rfl) ?_
            refine lv_iadd hx hb dX10_pass_135 ?_
            obtain ⟨μ36, hc35, h⟩ := dw_bdS h
            refine dw_cVv C0 Z dw_hA (dw_lt dw_kc143 (by decide)) (dw_cz10 dw_kc143) rfl (As := [.int r2, .int (9 : Int32), .int (r34 + x32)]) (rest := []) (kX10_setPipe l Γ hj μ5 r2 (9 : Int32) (r34 + x32) hc35) (dw_gV tw_lX10_51 tw_vX10_setPipe tw_eX10_setPipe tw_iX10 tw_kX10_setPipe) dw_hX10_setPipe ⟨Nat.le_of_ble_eq_true rfl, Nat.le_of_ble_eq_true rfl⟩ ⟨Nat.zero_le _, Nat.zero_le _⟩ hl.1 (Nat.le_of_ble_eq_true rfl) rfl dX10_pass_136 (fun H locs Z => ?_)
            refine lv_goto (tgt := 159) hx hb dX10_pass_139 (by decide) ?_
            exact J159 x32 μ36 H locs ls Z (lv_sub hl [2, 3, 4, 0] rfl) h
        · have h := dw_ifF c10 h
          refine lv_iconst (v := (0 : Int32)) hx hb dX10_pass_77 (by decide) ?_
          obtain ⟨rfl, rfl⟩ := dw_s2 h
          exact dw_iret C0 Z hr hlk dX10_pass_78
  obtain ⟨k48, ek48, h⟩ := dw_jnS h
  have J48 : ∀ (H : Heap) (locs : List Loc) (ls : Array Slot), dw_Z Γ (dw_A Γ) s.heap μ H locs → lv_has ls 5 [(0, .ref (dw_ad Γ 143)), (1, .int a1), (2, .int r2)] → k48 = some (r, ν) → W p l e (dw_rm 2 44) s m ([.ref (dw_ad Γ 143), .int a1] : List Value).toArray below meth c H locs 0 0 (MQ below (dw_Qi Γ r ν) ([.ref (dw_ad Γ 143), .int a1] : List Value).toArray s 0 0 (dw_A Γ)) (F0 m 48 ls []) := by
    clear h
    intro  H locs ls Z hl h
    rw [ek48] at h
    refine lv_iconst (v := (0 : Int32)) hx hb dX10_pass_48 (by decide) ?_
    exact J49 (0 : Int32) H locs ls Z (lv_sub hl [0, 1, 2] rfl) h
  refine lv_icmp_lt (tgt := 48) hx hb dX10_pass_11 (by decide) (fun c37 => ?_) (fun c37 => ?_)
  · have h := dw_ifT c37 h
    exact J48 H locs ls Z (lv_sub hl [1, 2, 0] rfl) h
  · have h := dw_ifF c37 h
    refine lv_aload_n hx hb dX10_pass_14 rfl (lv_at hl 1 rfl) ?_
    refine dw_g10_0 (t := 144) C0 Z dw_kc143 tw_fX10_7 rfl dX10_pass_15 ?_
    refine lv_sipush (v := (320 : Int32)) hx hb dX10_pass_18 (by decide) ?_
    refine lv_iload_n hx hb dX10_pass_21 rfl (lv_at hl 0 rfl) ?_
    refine lv_iadd hx hb dX10_pass_22 ?_
    refine lv_bipush (v := (100 : Int32)) hx hb dX10_pass_23 (by decide) ?_
    refine lv_isub hx hb dX10_pass_25 ?_
    obtain ⟨g38, h⟩ := dw_gdS h
    refine dw_ald C0 Z dw_kc144 dw_lc144 g38 dX10_pass_26 ?_
    refine lv_aload_n hx hb dX10_pass_27 rfl (lv_at hl 1 rfl) ?_
    refine lv_iload_n hx hb dX10_pass_28 rfl (lv_at hl 2 rfl) ?_
    refine lv_aload_n hx hb dX10_pass_29 rfl (lv_at hl 1 rfl) ?_
    refine lv_iload_n hx hb dX10_pass_30 rfl (lv_at hl 2 rfl) ?_
    refine lv_bipush (v := (11 : Int32)) hx hb dX10_pass_31 (by decide) ?_
    obtain ⟨r40, hc39, h⟩ := dw_bdS h
    refine dw_cVi C0 Z dw_hA (dw_lt dw_kc143 (by decide)) (dw_cz10 dw_kc143) rfl (As := [.int a1, .int (11 : Int32)]) (rest := [.int a1, .ref (dw_ad Γ 143), .int (μ.1 144 (((320 : Int32) + r2) - (100 : Int32)).toNatClampNeg)]) (kX10_pipeOf l Γ hj μ a1 (11 : Int32) hc39) (dw_gV tw_lX10_55 tw_vX10_pipeOf tw_eX10_pipeOf tw_iX10 tw_kX10_pipeOf) dw_hX10_pipeOf ⟨Nat.le_of_ble_eq_true rfl, Nat.le_of_ble_eq_true rfl⟩ ⟨Nat.zero_le _, Nat.zero_le _⟩ hl.1 (Nat.le_of_ble_eq_true rfl) rfl dX10_pass_33 (fun H locs Z => ?_)
    refine lv_iconst (v := (1 : Int32)) hx hb dX10_pass_36 (by decide) ?_
    refine lv_isub hx hb dX10_pass_37 ?_
    obtain ⟨r42, hc41, h⟩ := dw_bdS h
    refine dw_cVi C0 Z dw_hA (dw_lt dw_kc143 (by decide)) (dw_cz10 dw_kc143) rfl (As := [.int a1, .int (r40 - (1 : Int32))]) (rest := [.int (μ.1 144 (((320 : Int32) + r2) - (100 : Int32)).toNatClampNeg)]) (kX10_levelAt l Γ hj μ a1 (r40 - (1 : Int32)) hc41) (dw_gV tw_lX10_68 tw_vX10_levelAt tw_eX10_levelAt tw_iX10 tw_kX10_levelAt) dw_hX10_levelAt ⟨Nat.le_of_ble_eq_true rfl, Nat.le_of_ble_eq_true rfl⟩ ⟨Nat.zero_le _, Nat.zero_le _⟩ hl.1 (Nat.le_of_ble_eq_true rfl) rfl dX10_pass_38 (fun H locs Z => ?_)
    refine lv_icmp_le (tgt := 48) hx hb dX10_pass_41 (by decide) (fun c43 => ?_) (fun c43 => ?_)
    · have h := dw_ifT c43 h
      exact J48 H locs ls Z (lv_sub hl [1, 2, 0] rfl) h
    · have h := dw_ifF c43 h
      refine lv_iconst (v := (1 : Int32)) hx hb dX10_pass_44 (by decide) ?_
      refine lv_goto (tgt := 49) hx hb dX10_pass_45 (by decide) ?_
      exact J49 (1 : Int32) H locs ls Z (lv_sub hl [1, 2, 0] rfl) h

def sX10_hour_20 (x6 : Int32) (x9 : Int32) (x10 : Int32) (μ11 : dw_M) : Option ((Int32 × Int32 × dw_M) ⊕ ((Int32 × dw_M))) :=
  if (μ11.1 144 (13 : Int32).toNatClampNeg) ≤ x10 then (
  some (.inr (x9, μ11)))
  else (
  dw_bd (fX10_rank μ11 x10) (fun r14 =>
  if r14 = x6 then (
  dw_b2 (fX10_pass μ11 x10) (fun r19 μ20 =>
  dw_nm (x9 + r19) (fun x21 =>
  dw_nm (x10 + (1 : Int32)) (fun x22 =>
  some (.inl (x21, x22, μ20))))))
  else (
  dw_nm (x9 + (0 : Int32)) (fun x16 =>
  dw_nm (x10 + (1 : Int32)) (fun x17 =>
  some (.inl (x16, x17, μ11)))))))
def sX10_hour_12  (x5 : Int32) (x6 : Int32) (μ7 : dw_M) : Option ((Int32 × Int32 × dw_M) ⊕ ((Int32 × dw_M))) :=
  if (20 : Int32) ≤ x6 then (
  some (.inr (x5, μ7)))
  else (
  dw_bd (dw_wh (fun v => sX10_hour_20 x6 v.1 v.2.1 v.2.2) 1000 (x5, (0 : Int32), μ7))
    (fun v => (fun x23 μ24 => dw_nm (x6 + (1 : Int32)) (fun x25 =>
  some (.inl (x23, x25, μ24)))) v.1 v.2))
def sX10_hour_66  (x28 : Int32) (μ29 : dw_M) : Option ((Int32 × dw_M) ⊕ ((dw_M))) :=
  if (μ29.1 144 (13 : Int32).toNatClampNeg) ≤ x28 then (
  some (.inr μ29))
  else (
  dw_bd (fX10_pipeOf μ29 x28 (6 : Int32)) (fun r32 =>
  if r32 ≤ 0 then (
  dw_bd (fX10_setPipe μ29 x28 (6 : Int32) (0 : Int32)) (fun μ35 =>
  dw_nm (x28 + (1 : Int32)) (fun x36 =>
  some (.inl (x36, μ35)))))
  else (
  dw_bd (fX10_pipeOf μ29 x28 (6 : Int32)) (fun r38 =>
  dw_bd (fX10_setPipe μ29 x28 (6 : Int32) (r38 - (1 : Int32))) (fun μ40 =>
  dw_nm (x28 + (1 : Int32)) (fun x41 =>
  some (.inl (x41, μ40))))))))
def fX10_hour (μ : dw_M) : Option (Int32 × dw_M) :=
  dw_bd (fX10_fall μ) (fun μ2 =>
  dw_bd (fX10_seep μ2) (fun μ4 =>
  dw_bd (dw_wh (fun v => sX10_hour_12 v.1 v.2.1 v.2.2) 1000 ((0 : Int32), (0 : Int32), μ4))
    (fun v => (fun x26 μ27 => dw_bd (dw_wh (fun v => sX10_hour_66 v.1 v.2) 1000 ((0 : Int32), μ27))
    (fun μ42 => dw_nm (dw_st μ42 144 (7 : Int32).toNatClampNeg ((μ42.1 144 (7 : Int32).toNatClampNeg) + (1 : Int32))) (fun μ43 =>
  some (x26, μ43)))) v.1 v.2)))
set_option maxHeartbeats 4000000 in
set_option maxRecDepth 100000 in
theorem kX10_hour (l : Launch) (Γ : dw_G) (hj : dw_inj Γ) (μ : dw_M)  {r : Int32} {ν : dw_M} (h : fX10_hour μ = some (r, ν)) : Met l yX10_hour (dw_ws yX10_hour cX10_hour 4 (some .int)) (dw_rm 5 115) (dw_P Γ ([.ref (dw_ad Γ 143)] : List Value) μ) (dw_Qi Γ r ν) 0 0 (dw_A Γ) := by
  refine dw_met (own := RX10) rfl rfl (Nat.le_of_ble_eq_true rfl) hj ?_
  intro p e s m below meth c C0 hr hlk Z ls hl
  have hx := C0.1
  have hb := C0.2.1
  have hl : lv_has ls 4 [(0, .ref (dw_ad Γ 143))] := hl
  suffices key : ∀ (H : Heap) (locs : List Loc), dw_Z Γ (dw_A Γ) s.heap μ H locs → W p l e (dw_rm 5 115) s m ([.ref (dw_ad Γ 143)] : List Value).toArray below meth c H locs 0 0 (MQ below (dw_Qi Γ r ν) ([.ref (dw_ad Γ 143)] : List Value).toArray s 0 0 (dw_A Γ)) (F0 m 0 ls []) from key _ _ Z
  clear Z
  intro H locs Z
  unfold fX10_hour at h
  refine lv_aload_n hx hb dX10_hour_0 rfl (lv_at hl 0 rfl) ?_
  obtain ⟨μ2, hc1, h⟩ := dw_bdS h
  refine dw_cVv C0 Z dw_hA (dw_lt dw_kc143 (by decide)) (dw_cz10 dw_kc143) rfl (As := []) (rest := []) (kX10_fall l Γ hj μ hc1) (dw_gV tw_lX10_92 tw_vX10_fall tw_eX10_fall tw_iX10 tw_kX10_fall) dw_hX10_fall ⟨Nat.le_of_ble_eq_true rfl, Nat.le_of_ble_eq_true rfl⟩ ⟨Nat.zero_le _, Nat.zero_le _⟩ hl.1 (Nat.le_of_ble_eq_true rfl) rfl dX10_hour_1 (fun H locs Z => ?_)
  refine lv_aload_n hx hb dX10_hour_4 rfl (lv_at hl 0 rfl) ?_
  obtain ⟨μ4, hc3, h⟩ := dw_bdS h
  refine dw_cVv C0 Z dw_hA (dw_lt dw_kc143 (by decide)) (dw_cz10 dw_kc143) rfl (As := []) (rest := []) (kX10_seep l Γ hj μ2 hc3) (dw_gV tw_lX10_95 tw_vX10_seep tw_eX10_seep tw_iX10 tw_kX10_seep) dw_hX10_seep ⟨Nat.le_of_ble_eq_true rfl, Nat.le_of_ble_eq_true rfl⟩ ⟨Nat.zero_le _, Nat.zero_le _⟩ hl.1 (Nat.le_of_ble_eq_true rfl) rfl dX10_hour_5 (fun H locs Z => ?_)
  refine lv_iconst (v := (0 : Int32)) hx hb dX10_hour_8 (by decide) ?_
  refine lv_istore_n (lv' := [(1, .int (0 : Int32)), (0, .ref (dw_ad Γ 143))]) hx hb dX10_hour_9 rfl hl (by decide) rfl (fun ls hl => ?_)
  refine lv_iconst (v := (0 : Int32)) hx hb dX10_hour_10 (by decide) ?_
  refine lv_istore_n (lv' := [(2, .int (0 : Int32)), (1, .int (0 : Int32)), (0, .ref (dw_ad Γ 143))]) hx hb dX10_hour_11 rfl hl (by decide) rfl (fun ls hl => ?_)
  obtain ⟨kc12, ekc12, h⟩ := dw_bdK h
  have E12 : ∀ (x26 : Int32) (μ27 : dw_M) (H : Heap) (locs : List Loc) (ls : Array Slot), dw_Z Γ (dw_A Γ) s.heap μ27 H locs → lv_has ls 4 [(0, .ref (dw_ad Γ 143)), (1, .int x26)] → kc12 (x26, μ27) = some (r, ν) → W p l e (dw_rm 5 115) s m ([.ref (dw_ad Γ 143)] : List Value).toArray below meth c H locs 0 0 (MQ below (dw_Qi Γ r ν) ([.ref (dw_ad Γ 143)] : List Value).toArray s 0 0 (dw_A Γ)) (F0 m 64 ls []) := by
    intro x26 μ27 H locs ls Z hl h
    rw [ekc12] at h
    dsimp only at h
    refine lv_iconst (v := (0 : Int32)) hx hb dX10_hour_64 (by decide) ?_
    refine lv_istore_n (lv' := [(2, .int (0 : Int32)), (0, .ref (dw_ad Γ 143)), (1, .int x26)]) hx hb dX10_hour_65 rfl hl (by decide) rfl (fun ls hl => ?_)
    obtain ⟨kc66, ekc66, h⟩ := dw_bdK h
    have E66 : ∀ (μ42 : dw_M) (H : Heap) (locs : List Loc) (ls : Array Slot), dw_Z Γ (dw_A Γ) s.heap μ42 H locs → lv_has ls 4 [(0, .ref (dw_ad Γ 143)), (1, .int x26)] → kc66 μ42 = some (r, ν) → W p l e (dw_rm 5 115) s m ([.ref (dw_ad Γ 143)] : List Value).toArray below meth c H locs 0 0 (MQ below (dw_Qi Γ r ν) ([.ref (dw_ad Γ 143)] : List Value).toArray s 0 0 (dw_A Γ)) (F0 m 113 ls []) := by
      intro μ42 H locs ls Z hl h
      rw [ekc66] at h
      dsimp only at h
      refine lv_aload_n hx hb dX10_hour_113 rfl (lv_at hl 0 rfl) ?_
      refine dw_g10_0 (t := 144) C0 Z dw_kc143 tw_fX10_7 rfl dX10_hour_114 ?_
      refine lv_bipush (v := (7 : Int32)) hx hb dX10_hour_117 (by decide) ?_
      refine lv_dup2_11 hx hb dX10_hour_119 rfl rfl ?_
      refine dw_ald C0 Z dw_kc144 dw_lc144 (by decide) dX10_hour_120 ?_
      refine lv_iconst (v := (1 : Int32)) hx hb dX10_hour_121 (by decide) ?_
      refine lv_iadd hx hb dX10_hour_122 ?_
      refine dw_ast C0 Z dw_hA dw_kc144 dw_lc144 (by decide) dX10_hour_123 (fun μ43 eμ43 H locs Z => ?_)
      have h := dw_nmS eμ43 h
      refine lv_iload_n hx hb dX10_hour_124 rfl (lv_at hl 1 rfl) ?_
      obtain ⟨rfl, rfl⟩ := dw_s2 h
      exact dw_iret C0 Z hr hlk dX10_hour_125
    have L66 : ∀ (n66 : Nat) (x28 : Int32) (μ29 : dw_M) (H : Heap) (locs : List Loc) (ls : Array Slot), dw_Z Γ (dw_A Γ) s.heap μ29 H locs → lv_has ls 4 [(0, .ref (dw_ad Γ 143)), (1, .int x26), (2, .int x28)] → dw_bd (dw_wh (fun v => sX10_hour_66 v.1 v.2) n66 (x28, μ29)) kc66 = some (r, ν) → W p l e (dw_rm 5 115) s m ([.ref (dw_ad Γ 143)] : List Value).toArray below meth c H locs 0 0 (MQ below (dw_Qi Γ r ν) ([.ref (dw_ad Γ 143)] : List Value).toArray s 0 0 (dw_A Γ)) (F0 m 66 ls []) := by
      clear h
      intro n66
      induction n66 with
      | zero =>
        intro x28 μ29 H locs ls Z hl h
        exact (dw_wh0 h).elim
      | succ n66 ih66 =>
        intro x28 μ29 H locs ls Z hl h
        obtain ⟨q66, hs, hq66⟩ := dw_whB h
        have h : sX10_hour_66 x28 μ29 = some q66 := hs
        unfold sX10_hour_66 at h
        refine lv_iload_n hx hb dX10_hour_66 rfl (lv_at hl 2 rfl) ?_
        refine lv_aload_n hx hb dX10_hour_67 rfl (lv_at hl 0 rfl) ?_
        refine dw_g10_0 (t := 144) C0 Z dw_kc143 tw_fX10_7 rfl dX10_hour_68 ?_
        refine lv_bipush (v := (13 : Int32)) hx hb dX10_hour_71 (by decide) ?_
        refine dw_ald C0 Z dw_kc144 dw_lc144 (by decide) dX10_hour_73 ?_
        refine lv_icmp_ge (tgt := 113) hx hb dX10_hour_74 (by decide) (fun c30 => ?_) (fun c30 => ?_)
        · have h := dw_ifT c30 h
          obtain rfl := dw_s1 h
          exact E66  μ29 H locs ls Z (lv_sub hl [0, 1] rfl) hq66
        · have h := dw_ifF c30 h
          refine lv_aload_n hx hb dX10_hour_77 rfl (lv_at hl 0 rfl) ?_
          refine lv_iload_n hx hb dX10_hour_78 rfl (lv_at hl 2 rfl) ?_
          refine lv_bipush (v := (6 : Int32)) hx hb dX10_hour_79 (by decide) ?_
          refine lv_aload_n hx hb dX10_hour_81 rfl (lv_at hl 0 rfl) ?_
          refine lv_iload_n hx hb dX10_hour_82 rfl (lv_at hl 2 rfl) ?_
          refine lv_bipush (v := (6 : Int32)) hx hb dX10_hour_83 (by decide) ?_
          obtain ⟨r32, hc31, h⟩ := dw_bdS h
          refine dw_cVi C0 Z dw_hA (dw_lt dw_kc143 (by decide)) (dw_cz10 dw_kc143) rfl (As := [.int x28, .int (6 : Int32)]) (rest := [.int (6 : Int32), .int x28, .ref (dw_ad Γ 143)]) (kX10_pipeOf l Γ hj μ29 x28 (6 : Int32) hc31) (dw_gV tw_lX10_55 tw_vX10_pipeOf tw_eX10_pipeOf tw_iX10 tw_kX10_pipeOf) dw_hX10_pipeOf ⟨Nat.le_of_ble_eq_true rfl, Nat.le_of_ble_eq_true rfl⟩ ⟨Nat.zero_le _, Nat.zero_le _⟩ hl.1 (Nat.le_of_ble_eq_true rfl) rfl dX10_hour_85 (fun H locs Z => ?_)
          refine lv_if_le (tgt := 103) hx hb dX10_hour_88 (by decide) (fun c33 => ?_) (fun c33 => ?_)
          · have h := dw_ifT c33 h
            refine lv_iconst (v := (0 : Int32)) hx hb dX10_hour_103 (by decide) ?_
            obtain ⟨μ35, hc34, h⟩ := dw_bdS h
            refine dw_cVv C0 Z dw_hA (dw_lt dw_kc143 (by decide)) (dw_cz10 dw_kc143) rfl (As := [.int x28, .int (6 : Int32), .int (0 : Int32)]) (rest := []) (kX10_setPipe l Γ hj μ29 x28 (6 : Int32) (0 : Int32) hc34) (dw_gV tw_lX10_51 tw_vX10_setPipe tw_eX10_setPipe tw_iX10 tw_kX10_setPipe) dw_hX10_setPipe ⟨Nat.le_of_ble_eq_true rfl, Nat.le_of_ble_eq_true rfl⟩ ⟨Nat.zero_le _, Nat.zero_le _⟩ hl.1 (Nat.le_of_ble_eq_true rfl) rfl dX10_hour_104 (fun H locs Z => ?_)
            obtain ⟨x36, ex36⟩ := dw_eg (x28 + (1 : Int32))
            have h := dw_nmS ex36 h
            refine lv_iinc (v := x36) (lv' := [(2, .int x36), (0, .ref (dw_ad Γ 143)), (1, .int x26)]) hx hb dX10_hour_107 hl (k := 2) rfl (by rw [ex36]; rfl) (by decide) rfl (fun ls hl => ?_)
            refine lv_goto (tgt := 66) hx hb dX10_hour_110 (by decide) ?_
            obtain rfl := dw_s1 h
            exact ih66 x36 μ35 H locs ls Z (lv_sub hl [1, 2, 0] rfl) hq66
          · have h := dw_ifF c33 h
            refine lv_aload_n hx hb dX10_hour_91 rfl (lv_at hl 0 rfl) ?_
            refine lv_iload_n hx hb dX10_hour_92 rfl (lv_at hl 2 rfl) ?_
            refine lv_bipush (v := (6 : Int32)) hx hb dX10_hour_93 (by decide) ?_
            obtain ⟨r38, hc37, h⟩ := dw_bdS h
            refine dw_cVi C0 Z dw_hA (dw_lt dw_kc143 (by decide)) (dw_cz10 dw_kc143) rfl (As := [.int x28, .int (6 : Int32)]) (rest := [.int (6 : Int32), .int x28, .ref (dw_ad Γ 143)]) (kX10_pipeOf l Γ hj μ29 x28 (6 : Int32) hc37) (dw_gV tw_lX10_55 tw_vX10_pipeOf tw_eX10_pipeOf tw_iX10 tw_kX10_pipeOf) dw_hX10_pipeOf ⟨Nat.le_of_ble_eq_true rfl, Nat.le_of_ble_eq_true rfl⟩ ⟨Nat.zero_le _, Nat.zero_le _⟩ hl.1 (Nat.le_of_ble_eq_true rfl) rfl dX10_hour_95 (fun H locs Z => ?_)
            refine lv_iconst (v := (1 : Int32)) hx hb dX10_hour_98 (by decide) ?_
            refine lv_isub hx hb dX10_hour_99 ?_
            refine lv_goto (tgt := 104) hx hb dX10_hour_100 (by decide) ?_
            obtain ⟨μ40, hc39, h⟩ := dw_bdS h
            refine dw_cVv C0 Z dw_hA (dw_lt dw_kc143 (by decide)) (dw_cz10 dw_kc143) rfl (As := [.int x28, .int (6 : Int32), .int (r38 - (1 : Int32))]) (rest := []) (kX10_setPipe l Γ hj μ29 x28 (6 : Int32) (r38 - (1 : Int32)) hc39) (dw_gV tw_lX10_51 tw_vX10_setPipe tw_eX10_setPipe tw_iX10 tw_kX10_setPipe) dw_hX10_setPipe ⟨Nat.le_of_ble_eq_true rfl, Nat.le_of_ble_eq_true rfl⟩ ⟨Nat.zero_le _, Nat.zero_le _⟩ hl.1 (Nat.le_of_ble_eq_true rfl) rfl dX10_hour_104 (fun H locs Z => ?_)
            obtain ⟨x41, ex41⟩ := dw_eg (x28 + (1 : Int32))
            have h := dw_nmS ex41 h
            refine lv_iinc (v := x41) (lv' := [(2, .int x41), (0, .ref (dw_ad Γ 143)), (1, .int x26)]) hx hb dX10_hour_107 hl (k := 2) rfl (by rw [ex41]; rfl) (by decide) rfl (fun ls hl => ?_)
            refine lv_goto (tgt := 66) hx hb dX10_hour_110 (by decide) ?_
            obtain rfl := dw_s1 h
            exact ih66 x41 μ40 H locs ls Z (lv_sub hl [1, 2, 0] rfl) hq66
    exact L66 1000 (0 : Int32) μ27 H locs ls Z (lv_sub hl [1, 2, 0] rfl) h
  have L12 : ∀ (n12 : Nat) (x5 : Int32) (x6 : Int32) (μ7 : dw_M) (H : Heap) (locs : List Loc) (ls : Array Slot), dw_Z Γ (dw_A Γ) s.heap μ7 H locs → lv_has ls 4 [(0, .ref (dw_ad Γ 143)), (1, .int x5), (2, .int x6)] → dw_bd (dw_wh (fun v => sX10_hour_12 v.1 v.2.1 v.2.2) n12 (x5, x6, μ7)) kc12 = some (r, ν) → W p l e (dw_rm 5 115) s m ([.ref (dw_ad Γ 143)] : List Value).toArray below meth c H locs 0 0 (MQ below (dw_Qi Γ r ν) ([.ref (dw_ad Γ 143)] : List Value).toArray s 0 0 (dw_A Γ)) (F0 m 12 ls []) := by
    clear h
    intro n12
    induction n12 with
    | zero =>
      intro x5 x6 μ7 H locs ls Z hl h
      exact (dw_wh0 h).elim
    | succ n12 ih12 =>
      intro x5 x6 μ7 H locs ls Z hl h
      obtain ⟨q12, hs, hq12⟩ := dw_whB h
      have h : sX10_hour_12 x5 x6 μ7 = some q12 := hs
      unfold sX10_hour_12 at h
      refine lv_iload_n hx hb dX10_hour_12 rfl (lv_at hl 2 rfl) ?_
      refine lv_bipush (v := (20 : Int32)) hx hb dX10_hour_13 (by decide) ?_
      refine lv_icmp_ge (tgt := 64) hx hb dX10_hour_15 (by decide) (fun c8 => ?_) (fun c8 => ?_)
      · have h := dw_ifT c8 h
        obtain rfl := dw_s1 h
        exact E12 x5 μ7 H locs ls Z (lv_sub hl [0, 1] rfl) hq12
      · have h := dw_ifF c8 h
        refine lv_iconst (v := (0 : Int32)) hx hb dX10_hour_18 (by decide) ?_
        refine lv_istore_n (lv' := [(3, .int (0 : Int32)), (0, .ref (dw_ad Γ 143)), (1, .int x5), (2, .int x6)]) hx hb dX10_hour_19 rfl hl (by decide) rfl (fun ls hl => ?_)
        obtain ⟨kc20, ekc20, h⟩ := dw_bdK h
        have E20 : ∀ (x23 : Int32) (μ24 : dw_M) (H : Heap) (locs : List Loc) (ls : Array Slot), dw_Z Γ (dw_A Γ) s.heap μ24 H locs → lv_has ls 4 [(0, .ref (dw_ad Γ 143)), (1, .int x23), (2, .int x6)] → kc20 (x23, μ24) = some q12 → W p l e (dw_rm 5 115) s m ([.ref (dw_ad Γ 143)] : List Value).toArray below meth c H locs 0 0 (MQ below (dw_Qi Γ r ν) ([.ref (dw_ad Γ 143)] : List Value).toArray s 0 0 (dw_A Γ)) (F0 m 58 ls []) := by
          intro x23 μ24 H locs ls Z hl h
          rw [ekc20] at h
          dsimp only at h
          obtain ⟨x25, ex25⟩ := dw_eg (x6 + (1 : Int32))
          have h := dw_nmS ex25 h
          refine lv_iinc (v := x25) (lv' := [(2, .int x25), (0, .ref (dw_ad Γ 143)), (1, .int x23)]) hx hb dX10_hour_58 hl (k := 2) rfl (by rw [ex25]; rfl) (by decide) rfl (fun ls hl => ?_)
          refine lv_goto (tgt := 12) hx hb dX10_hour_61 (by decide) ?_
          obtain rfl := dw_s1 h
          exact ih12 x23 x25 μ24 H locs ls Z (lv_sub hl [1, 2, 0] rfl) hq12
        have L20 : ∀ (n20 : Nat) (x9 : Int32) (x10 : Int32) (μ11 : dw_M) (H : Heap) (locs : List Loc) (ls : Array Slot), dw_Z Γ (dw_A Γ) s.heap μ11 H locs → lv_has ls 4 [(0, .ref (dw_ad Γ 143)), (1, .int x9), (2, .int x6), (3, .int x10)] → dw_bd (dw_wh (fun v => sX10_hour_20 x6 v.1 v.2.1 v.2.2) n20 (x9, x10, μ11)) kc20 = some q12 → W p l e (dw_rm 5 115) s m ([.ref (dw_ad Γ 143)] : List Value).toArray below meth c H locs 0 0 (MQ below (dw_Qi Γ r ν) ([.ref (dw_ad Γ 143)] : List Value).toArray s 0 0 (dw_A Γ)) (F0 m 20 ls []) := by
          clear h
          intro n20
          induction n20 with
          | zero =>
            intro x9 x10 μ11 H locs ls Z hl h
            exact (dw_wh0 h).elim
          | succ n20 ih20 =>
            intro x9 x10 μ11 H locs ls Z hl h
            obtain ⟨q20, hs, hq20⟩ := dw_whB h
            have h : sX10_hour_20 x6 x9 x10 μ11 = some q20 := hs
            unfold sX10_hour_20 at h
            refine lv_iload_n hx hb dX10_hour_20 rfl (lv_at hl 3 rfl) ?_
            refine lv_aload_n hx hb dX10_hour_21 rfl (lv_at hl 0 rfl) ?_
            refine dw_g10_0 (t := 144) C0 Z dw_kc143 tw_fX10_7 rfl dX10_hour_22 ?_
            refine lv_bipush (v := (13 : Int32)) hx hb dX10_hour_25 (by decide) ?_
            refine dw_ald C0 Z dw_kc144 dw_lc144 (by decide) dX10_hour_27 ?_
            refine lv_icmp_ge (tgt := 58) hx hb dX10_hour_28 (by decide) (fun c12 => ?_) (fun c12 => ?_)
            · have h := dw_ifT c12 h
              obtain rfl := dw_s1 h
              exact E20 x9 μ11 H locs ls Z (lv_sub hl [0, 1, 2] rfl) hq20
            · have h := dw_ifF c12 h
              refine lv_iload_n hx hb dX10_hour_31 rfl (lv_at hl 1 rfl) ?_
              refine lv_aload_n hx hb dX10_hour_32 rfl (lv_at hl 0 rfl) ?_
              refine lv_iload_n hx hb dX10_hour_33 rfl (lv_at hl 3 rfl) ?_
              obtain ⟨r14, hc13, h⟩ := dw_bdS h
              refine dw_cVi C0 Z dw_hA (dw_lt dw_kc143 (by decide)) (dw_cz10 dw_kc143) rfl (As := [.int x10]) (rest := [.int x9]) (kX10_rank l Γ hj μ11 x10 hc13) (dw_gV tw_lX10_71 tw_vX10_rank tw_eX10_rank tw_iX10 tw_kX10_rank) dw_hX10_rank ⟨Nat.le_of_ble_eq_true rfl, Nat.le_of_ble_eq_true rfl⟩ ⟨Nat.zero_le _, Nat.zero_le _⟩ hl.1 (Nat.le_of_ble_eq_true rfl) rfl dX10_hour_34 (fun H locs Z => ?_)
              refine lv_iload_n hx hb dX10_hour_37 rfl (lv_at hl 2 rfl) ?_
              refine lv_icmp_ne (tgt := 49) hx hb dX10_hour_38 (by decide) (fun c15 => ?_) (fun c15 => ?_)
              · have h := dw_ifF c15 h
                refine lv_iconst (v := (0 : Int32)) hx hb dX10_hour_49 (by decide) ?_
                refine lv_iadd hx hb dX10_hour_50 ?_
                refine lv_topi (fun x16 ex16 => ?_)
                have h := dw_nmS ex16 h
                refine lv_istore_n (lv' := [(1, .int x16), (0, .ref (dw_ad Γ 143)), (2, .int x6), (3, .int x10)]) hx hb dX10_hour_51 rfl hl (by decide) rfl (fun ls hl => ?_)
                obtain ⟨x17, ex17⟩ := dw_eg (x10 + (1 : Int32))
                have h := dw_nmS ex17 h
                refine lv_iinc (v := x17) (lv' := [(3, .int x17), (1, .int x16), (0, .ref (dw_ad Γ 143)), (2, .int x6)]) hx hb dX10_hour_52 hl (k := 3) rfl (by rw [ex17]; rfl) (by decide) rfl (fun ls hl => ?_)
                refine lv_goto (tgt := 20) hx hb dX10_hour_55 (by decide) ?_
                obtain rfl := dw_s1 h
                exact ih20 x16 x17 μ11 H locs ls Z (lv_sub hl [2, 1, 3, 0] rfl) hq20
              · have h := dw_ifT c15 h
                refine lv_aload_n hx hb dX10_hour_41 rfl (lv_at hl 0 rfl) ?_
                refine lv_iload_n hx hb dX10_hour_42 rfl (lv_at hl 3 rfl) ?_
                obtain ⟨r19, μ20, hc18, h⟩ := dw_b2S h
                refine dw_cVi C0 Z dw_hA (dw_lt dw_kc143 (by decide)) (dw_cz10 dw_kc143) rfl (As := [.int x10]) (rest := [.int x9]) (kX10_pass l Γ hj μ11 x10 hc18) (dw_gV tw_lX10_98 tw_vX10_pass tw_eX10_pass tw_iX10 tw_kX10_pass) dw_hX10_pass ⟨Nat.le_of_ble_eq_true rfl, Nat.le_of_ble_eq_true rfl⟩ ⟨Nat.zero_le _, Nat.zero_le _⟩ hl.1 (Nat.le_of_ble_eq_true rfl) rfl dX10_hour_43 (fun H locs Z => ?_)
                refine lv_goto (tgt := 50) hx hb dX10_hour_46 (by decide) ?_
                refine lv_iadd hx hb dX10_hour_50 ?_
                refine lv_topi (fun x21 ex21 => ?_)
                have h := dw_nmS ex21 h
                refine lv_istore_n (lv' := [(1, .int x21), (0, .ref (dw_ad Γ 143)), (2, .int x6), (3, .int x10)]) hx hb dX10_hour_51 rfl hl (by decide) rfl (fun ls hl => ?_)
                obtain ⟨x22, ex22⟩ := dw_eg (x10 + (1 : Int32))
                have h := dw_nmS ex22 h
                refine lv_iinc (v := x22) (lv' := [(3, .int x22), (1, .int x21), (0, .ref (dw_ad Γ 143)), (2, .int x6)]) hx hb dX10_hour_52 hl (k := 3) rfl (by rw [ex22]; rfl) (by decide) rfl (fun ls hl => ?_)
                refine lv_goto (tgt := 20) hx hb dX10_hour_55 (by decide) ?_
                obtain rfl := dw_s1 h
                exact ih20 x21 x22 μ20 H locs ls Z (lv_sub hl [2, 1, 3, 0] rfl) hq20
        exact L20 1000 x5 (0 : Int32) μ7 H locs ls Z (lv_sub hl [1, 2, 3, 0] rfl) h
  exact L12 1000 (0 : Int32) (0 : Int32) μ4 H locs ls Z (lv_sub hl [2, 1, 0] rfl) h

def sX10_hours_16 (a1 : Int32) (x2 : Int32) (x3 : Int32) (μ4 : dw_M) : Option ((Int32 × Int32 × dw_M) ⊕ ((Int32 × dw_M))) :=
  if a1 ≤ x3 then (
  some (.inr (x2, μ4)))
  else (
  dw_b2 (fX10_hour μ4) (fun r7 μ8 =>
  dw_nm (x2 + r7) (fun x9 =>
  dw_nm (x3 + (1 : Int32)) (fun x10 =>
  some (.inl (x9, x10, μ8))))))
def fX10_hours (μ : dw_M) (a1 : Int32) : Option (Int32 × dw_M) :=
  if (fX10_in a1 (1 : Int32) (50 : Int32)) = 0 then (
  some ((-1 : Int32), μ))
  else (
  dw_bd (dw_wh (fun v => sX10_hours_16 a1 v.1 v.2.1 v.2.2) 1000 ((0 : Int32), (0 : Int32), μ))
    (fun v => (fun x11 μ12 => some (x11, μ12)) v.1 v.2))
set_option maxHeartbeats 4000000 in
set_option maxRecDepth 100000 in
theorem kX10_hours (l : Launch) (Γ : dw_G) (hj : dw_inj Γ) (μ : dw_M) (a1 : Int32) {r : Int32} {ν : dw_M} (h : fX10_hours μ a1 = some (r, ν)) : Met l yX10_hours (dw_ws yX10_hours cX10_hours 4 (some .int)) (dw_rm 6 138) (dw_P Γ ([.ref (dw_ad Γ 143), .int a1] : List Value) μ) (dw_Qi Γ r ν) 0 0 (dw_A Γ) := by
  refine dw_met (own := RX10) rfl rfl (Nat.le_of_ble_eq_true rfl) hj ?_
  intro p e s m below meth c C0 hr hlk Z ls hl
  have hx := C0.1
  have hb := C0.2.1
  have hl : lv_has ls 4 [(0, .ref (dw_ad Γ 143)), (1, .int a1)] := hl
  suffices key : ∀ (H : Heap) (locs : List Loc), dw_Z Γ (dw_A Γ) s.heap μ H locs → W p l e (dw_rm 6 138) s m ([.ref (dw_ad Γ 143), .int a1] : List Value).toArray below meth c H locs 0 0 (MQ below (dw_Qi Γ r ν) ([.ref (dw_ad Γ 143), .int a1] : List Value).toArray s 0 0 (dw_A Γ)) (F0 m 0 ls []) from key _ _ Z
  clear Z
  intro H locs Z
  unfold fX10_hours at h
  refine lv_iload_n hx hb dX10_hours_0 rfl (lv_at hl 1 rfl) ?_
  refine lv_iconst (v := (1 : Int32)) hx hb dX10_hours_1 (by decide) ?_
  refine lv_bipush (v := (50 : Int32)) hx hb dX10_hours_2 (by decide) ?_
  refine dw_cSi C0 Z dw_hA (As := [.int a1, .int (1 : Int32), .int (50 : Int32)]) (rest := []) (kX10_in l Γ hj μ a1 (1 : Int32) (50 : Int32) rfl) (dw_gS tw_lX10_29 tw_sX10_in tw_iX10 tw_kX10_in) dw_hX10_in ⟨Nat.le_of_ble_eq_true rfl, Nat.le_of_ble_eq_true rfl⟩ ⟨Nat.zero_le _, Nat.zero_le _⟩ hl.1 (Nat.le_of_ble_eq_true rfl) rfl dX10_hours_4 (fun H locs Z => ?_)
  refine lv_if_ne (tgt := 12) hx hb dX10_hours_7 (by decide) (fun c1 => ?_) (fun c1 => ?_)
  · have h := dw_ifF c1 h
    refine lv_iconst (v := (0 : Int32)) hx hb dX10_hours_12 (by decide) ?_
    refine lv_istore_n (lv' := [(2, .int (0 : Int32)), (0, .ref (dw_ad Γ 143)), (1, .int a1)]) hx hb dX10_hours_13 rfl hl (by decide) rfl (fun ls hl => ?_)
    refine lv_iconst (v := (0 : Int32)) hx hb dX10_hours_14 (by decide) ?_
    refine lv_istore_n (lv' := [(3, .int (0 : Int32)), (2, .int (0 : Int32)), (0, .ref (dw_ad Γ 143)), (1, .int a1)]) hx hb dX10_hours_15 rfl hl (by decide) rfl (fun ls hl => ?_)
    obtain ⟨kc16, ekc16, h⟩ := dw_bdK h
    have E16 : ∀ (x11 : Int32) (μ12 : dw_M) (H : Heap) (locs : List Loc) (ls : Array Slot), dw_Z Γ (dw_A Γ) s.heap μ12 H locs → lv_has ls 4 [(2, .int x11)] → kc16 (x11, μ12) = some (r, ν) → W p l e (dw_rm 6 138) s m ([.ref (dw_ad Γ 143), .int a1] : List Value).toArray below meth c H locs 0 0 (MQ below (dw_Qi Γ r ν) ([.ref (dw_ad Γ 143), .int a1] : List Value).toArray s 0 0 (dw_A Γ)) (F0 m 34 ls []) := by
      intro x11 μ12 H locs ls Z hl h
      rw [ekc16] at h
      dsimp only at h
      refine lv_iload_n hx hb dX10_hours_34 rfl (lv_at hl 0 rfl) ?_
      obtain ⟨rfl, rfl⟩ := dw_s2 h
      exact dw_iret C0 Z hr hlk dX10_hours_35
    have L16 : ∀ (n16 : Nat) (x2 : Int32) (x3 : Int32) (μ4 : dw_M) (H : Heap) (locs : List Loc) (ls : Array Slot), dw_Z Γ (dw_A Γ) s.heap μ4 H locs → lv_has ls 4 [(0, .ref (dw_ad Γ 143)), (1, .int a1), (2, .int x2), (3, .int x3)] → dw_bd (dw_wh (fun v => sX10_hours_16 a1 v.1 v.2.1 v.2.2) n16 (x2, x3, μ4)) kc16 = some (r, ν) → W p l e (dw_rm 6 138) s m ([.ref (dw_ad Γ 143), .int a1] : List Value).toArray below meth c H locs 0 0 (MQ below (dw_Qi Γ r ν) ([.ref (dw_ad Γ 143), .int a1] : List Value).toArray s 0 0 (dw_A Γ)) (F0 m 16 ls []) := by
      clear h
      intro n16
      induction n16 with
      | zero =>
        intro x2 x3 μ4 H locs ls Z hl h
        exact (dw_wh0 h).elim
      | succ n16 ih16 =>
        intro x2 x3 μ4 H locs ls Z hl h
        obtain ⟨q16, hs, hq16⟩ := dw_whB h
        have h : sX10_hours_16 a1 x2 x3 μ4 = some q16 := hs
        unfold sX10_hours_16 at h
        refine lv_iload_n hx hb dX10_hours_16 rfl (lv_at hl 3 rfl) ?_
        refine lv_iload_n hx hb dX10_hours_17 rfl (lv_at hl 1 rfl) ?_
        refine lv_icmp_ge (tgt := 34) hx hb dX10_hours_18 (by decide) (fun c5 => ?_) (fun c5 => ?_)
        · have h := dw_ifT c5 h
          obtain rfl := dw_s1 h
          exact E16 x2 μ4 H locs ls Z (lv_sub hl [2] rfl) hq16
        · have h := dw_ifF c5 h
          refine lv_iload_n hx hb dX10_hours_21 rfl (lv_at hl 2 rfl) ?_
          refine lv_aload_n hx hb dX10_hours_22 rfl (lv_at hl 0 rfl) ?_
          obtain ⟨r7, μ8, hc6, h⟩ := dw_b2S h
          refine dw_cVi C0 Z dw_hA (dw_lt dw_kc143 (by decide)) (dw_cz10 dw_kc143) rfl (As := []) (rest := [.int x2]) (kX10_hour l Γ hj μ4 hc6) (dw_gV tw_lX10_101 tw_vX10_hour tw_eX10_hour tw_iX10 tw_kX10_hour) dw_hX10_hour ⟨Nat.le_of_ble_eq_true rfl, Nat.le_of_ble_eq_true rfl⟩ ⟨Nat.zero_le _, Nat.zero_le _⟩ hl.1 (Nat.le_of_ble_eq_true rfl) rfl dX10_hours_23 (fun H locs Z => ?_)
          refine lv_iadd hx hb dX10_hours_26 ?_
          refine lv_topi (fun x9 ex9 => ?_)
          have h := dw_nmS ex9 h
          refine lv_istore_n (lv' := [(2, .int x9), (0, .ref (dw_ad Γ 143)), (1, .int a1), (3, .int x3)]) hx hb dX10_hours_27 rfl hl (by decide) rfl (fun ls hl => ?_)
          obtain ⟨x10, ex10⟩ := dw_eg (x3 + (1 : Int32))
          have h := dw_nmS ex10 h
          refine lv_iinc (v := x10) (lv' := [(3, .int x10), (2, .int x9), (0, .ref (dw_ad Γ 143)), (1, .int a1)]) hx hb dX10_hours_28 hl (k := 3) rfl (by rw [ex10]; rfl) (by decide) rfl (fun ls hl => ?_)
          refine lv_goto (tgt := 16) hx hb dX10_hours_31 (by decide) ?_
          obtain rfl := dw_s1 h
          exact ih16 x9 x10 μ8 H locs ls Z (lv_sub hl [2, 3, 1, 0] rfl) hq16
    exact L16 1000 (0 : Int32) (0 : Int32) μ H locs ls Z (lv_sub hl [2, 3, 1, 0] rfl) h
  · have h := dw_ifT c1 h
    refine lv_iconst (v := (-1 : Int32)) hx hb dX10_hours_10 (by decide) ?_
    obtain ⟨rfl, rfl⟩ := dw_s2 h
    exact dw_iret C0 Z hr hlk dX10_hours_11

def sX10_isReached_18 (μ : dw_M) (a1 : Int32) (x2 : Int32) (x4 : Int32) (x5 : Int32) : Option ((Int32 × Int32) ⊕ ((Int32))) :=
  dw_bd (fX10_pipeOf μ x2 (11 : Int32)) (fun r7 =>
  if r7 ≤ x5 then (
  some (.inr x4))
  else (
  dw_bd (fX10_isLateral μ x2) (fun r10 =>
  if r10 = 0 then (
  some (.inr x4))
  else (
  dw_bd (fX10_rowOf μ a1) (fun r13 =>
  dw_bd (fX10_stepPlace μ x2 x5) (fun r15 =>
  dw_bd (fX10_rowOf μ r15) (fun r17 =>
  dw_nm (r13 - r17) (fun x18 =>
  dw_bd (fX10_columnOf μ a1) (fun r20 =>
  dw_bd (fX10_stepPlace μ x2 x5) (fun r22 =>
  dw_bd (fX10_columnOf μ r22) (fun r24 =>
  dw_nm (r20 - r24) (fun x25 =>
  if x4 = 0 then (
  dw_bd (fX10_soilOf μ a1 (3 : Int32)) (fun r29 =>
  if r29 < ((x18 * x18) + (x25 * x25)) then (
  dw_nm (x5 + (1 : Int32)) (fun x31 =>
  some (.inl ((0 : Int32), x31))))
  else (
  dw_nm (x5 + (1 : Int32)) (fun x32 =>
  some (.inl ((1 : Int32), x32))))))
  else (
  dw_nm (x5 + (1 : Int32)) (fun x27 =>
  some (.inl ((1 : Int32), x27))))))))))))))))
def sX10_isReached_4 (μ : dw_M) (a1 : Int32) (x1 : Int32) (x2 : Int32) : Option ((Int32 × Int32) ⊕ ((Int32))) :=
  if (μ.1 144 (13 : Int32).toNatClampNeg) ≤ x2 then (
  some (.inr x1))
  else (
  dw_bd (dw_wh (fun v => sX10_isReached_18 μ a1 x2 v.1 v.2) 1000 (x1, (0 : Int32)))
    (fun x33 => dw_nm (x2 + (1 : Int32)) (fun x34 =>
  some (.inl (x33, x34)))))
def fX10_isReached (μ : dw_M) (a1 : Int32) : Option (Int32) :=
  dw_bd (dw_wh (fun v => sX10_isReached_4 μ a1 v.1 v.2) 1000 ((0 : Int32), (0 : Int32)))
    (fun x35 => dw_gd (dw_bo x35) (
  some x35))
set_option maxHeartbeats 4000000 in
set_option maxRecDepth 100000 in
theorem kX10_isReached (l : Launch) (Γ : dw_G) (hj : dw_inj Γ) (μ : dw_M) (a1 : Int32) {r : Int32} (h : fX10_isReached μ a1 = some r) : Met l yX10_isReached (dw_ws yX10_isReached cX10_isReached 7 (some .boolean)) (dw_rm 3 67) (dw_P Γ ([.ref (dw_ad Γ 143), .int a1] : List Value) μ) (dw_Qi Γ r μ) 0 0 (dw_A Γ) := by
  refine dw_met (own := RX10) rfl rfl (Nat.le_of_ble_eq_true rfl) hj ?_
  intro p e s m below meth c C0 hr hlk Z ls hl
  have hx := C0.1
  have hb := C0.2.1
  have hl : lv_has ls 7 [(0, .ref (dw_ad Γ 143)), (1, .int a1)] := hl
  suffices key : ∀ (H : Heap) (locs : List Loc), dw_Z Γ (dw_A Γ) s.heap μ H locs → W p l e (dw_rm 3 67) s m ([.ref (dw_ad Γ 143), .int a1] : List Value).toArray below meth c H locs 0 0 (MQ below (dw_Qi Γ r μ) ([.ref (dw_ad Γ 143), .int a1] : List Value).toArray s 0 0 (dw_A Γ)) (F0 m 0 ls []) from key _ _ Z
  clear Z
  intro H locs Z
  unfold fX10_isReached at h
  refine lv_iconst (v := (0 : Int32)) hx hb dX10_isReached_0 (by decide) ?_
  refine lv_istore_n (lv' := [(2, .int (0 : Int32)), (0, .ref (dw_ad Γ 143)), (1, .int a1)]) hx hb dX10_isReached_1 rfl hl (by decide) rfl (fun ls hl => ?_)
  refine lv_iconst (v := (0 : Int32)) hx hb dX10_isReached_2 (by decide) ?_
  refine lv_istore_n (lv' := [(3, .int (0 : Int32)), (2, .int (0 : Int32)), (0, .ref (dw_ad Γ 143)), (1, .int a1)]) hx hb dX10_isReached_3 rfl hl (by decide) rfl (fun ls hl => ?_)
  obtain ⟨kc4, ekc4, h⟩ := dw_bdK h
  have E4 : ∀ (x35 : Int32) (H : Heap) (locs : List Loc) (ls : Array Slot), dw_Z Γ (dw_A Γ) s.heap μ H locs → lv_has ls 7 [(2, .int x35)] → kc4 x35 = some r → W p l e (dw_rm 3 67) s m ([.ref (dw_ad Γ 143), .int a1] : List Value).toArray below meth c H locs 0 0 (MQ below (dw_Qi Γ r μ) ([.ref (dw_ad Γ 143), .int a1] : List Value).toArray s 0 0 (dw_A Γ)) (F0 m 118 ls []) := by
    intro x35 H locs ls Z hl h
    rw [ekc4] at h
    dsimp only at h
    refine lv_iload_n hx hb dX10_isReached_118 rfl (lv_at hl 0 rfl) ?_
    obtain ⟨g36, h⟩ := dw_gdS h
    obtain rfl := dw_s1 h
    exact dw_zret C0 Z hr hlk (dw_boN g36) dX10_isReached_119
  have L4 : ∀ (n4 : Nat) (x1 : Int32) (x2 : Int32) (H : Heap) (locs : List Loc) (ls : Array Slot), dw_Z Γ (dw_A Γ) s.heap μ H locs → lv_has ls 7 [(0, .ref (dw_ad Γ 143)), (1, .int a1), (2, .int x1), (3, .int x2)] → dw_bd (dw_wh (fun v => sX10_isReached_4 μ a1 v.1 v.2) n4 (x1, x2)) kc4 = some r → W p l e (dw_rm 3 67) s m ([.ref (dw_ad Γ 143), .int a1] : List Value).toArray below meth c H locs 0 0 (MQ below (dw_Qi Γ r μ) ([.ref (dw_ad Γ 143), .int a1] : List Value).toArray s 0 0 (dw_A Γ)) (F0 m 4 ls []) := by
    clear h
    intro n4
    induction n4 with
    | zero =>
      intro x1 x2 H locs ls Z hl h
      exact (dw_wh0 h).elim
    | succ n4 ih4 =>
      intro x1 x2 H locs ls Z hl h
      obtain ⟨q4, hs, hq4⟩ := dw_whB h
      have h : sX10_isReached_4 μ a1 x1 x2 = some q4 := hs
      unfold sX10_isReached_4 at h
      refine lv_iload_n hx hb dX10_isReached_4 rfl (lv_at hl 3 rfl) ?_
      refine lv_aload_n hx hb dX10_isReached_5 rfl (lv_at hl 0 rfl) ?_
      refine dw_g10_0 (t := 144) C0 Z dw_kc143 tw_fX10_7 rfl dX10_isReached_6 ?_
      refine lv_bipush (v := (13 : Int32)) hx hb dX10_isReached_9 (by decide) ?_
      refine dw_ald C0 Z dw_kc144 dw_lc144 (by decide) dX10_isReached_11 ?_
      refine lv_icmp_ge (tgt := 118) hx hb dX10_isReached_12 (by decide) (fun c3 => ?_) (fun c3 => ?_)
      · have h := dw_ifT c3 h
        obtain rfl := dw_s1 h
        exact E4 x1 H locs ls Z (lv_sub hl [2] rfl) hq4
      · have h := dw_ifF c3 h
        refine lv_iconst (v := (0 : Int32)) hx hb dX10_isReached_15 (by decide) ?_
        refine lv_istore (lv' := [(4, .int (0 : Int32)), (0, .ref (dw_ad Γ 143)), (1, .int a1), (2, .int x1), (3, .int x2)]) hx hb dX10_isReached_16 hl (by decide) rfl (fun ls hl => ?_)
        obtain ⟨kc18, ekc18, h⟩ := dw_bdK h
        have E18 : ∀ (x33 : Int32) (H : Heap) (locs : List Loc) (ls : Array Slot), dw_Z Γ (dw_A Γ) s.heap μ H locs → lv_has ls 7 [(0, .ref (dw_ad Γ 143)), (1, .int a1), (2, .int x33), (3, .int x2)] → kc18 x33 = some q4 → W p l e (dw_rm 3 67) s m ([.ref (dw_ad Γ 143), .int a1] : List Value).toArray below meth c H locs 0 0 (MQ below (dw_Qi Γ r μ) ([.ref (dw_ad Γ 143), .int a1] : List Value).toArray s 0 0 (dw_A Γ)) (F0 m 112 ls []) := by
          intro x33 H locs ls Z hl h
          rw [ekc18] at h
          dsimp only at h
          obtain ⟨x34, ex34⟩ := dw_eg (x2 + (1 : Int32))
          have h := dw_nmS ex34 h
          refine lv_iinc (v := x34) (lv' := [(3, .int x34), (0, .ref (dw_ad Γ 143)), (1, .int a1), (2, .int x33)]) hx hb dX10_isReached_112 hl (k := 3) rfl (by rw [ex34]; rfl) (by decide) rfl (fun ls hl => ?_)
          refine lv_goto (tgt := 4) hx hb dX10_isReached_115 (by decide) ?_
          obtain rfl := dw_s1 h
          exact ih4 x33 x34 H locs ls Z (lv_sub hl [1, 2, 3, 0] rfl) hq4
        have L18 : ∀ (n18 : Nat) (x4 : Int32) (x5 : Int32) (H : Heap) (locs : List Loc) (ls : Array Slot), dw_Z Γ (dw_A Γ) s.heap μ H locs → lv_has ls 7 [(0, .ref (dw_ad Γ 143)), (1, .int a1), (2, .int x4), (3, .int x2), (4, .int x5)] → dw_bd (dw_wh (fun v => sX10_isReached_18 μ a1 x2 v.1 v.2) n18 (x4, x5)) kc18 = some q4 → W p l e (dw_rm 3 67) s m ([.ref (dw_ad Γ 143), .int a1] : List Value).toArray below meth c H locs 0 0 (MQ below (dw_Qi Γ r μ) ([.ref (dw_ad Γ 143), .int a1] : List Value).toArray s 0 0 (dw_A Γ)) (F0 m 18 ls []) := by
          clear h
          intro n18
          induction n18 with
          | zero =>
            intro x4 x5 H locs ls Z hl h
            exact (dw_wh0 h).elim
          | succ n18 ih18 =>
            intro x4 x5 H locs ls Z hl h
            obtain ⟨q18, hs, hq18⟩ := dw_whB h
            have h : sX10_isReached_18 μ a1 x2 x4 x5 = some q18 := hs
            unfold sX10_isReached_18 at h
            refine lv_iload hx hb dX10_isReached_18 (lv_at hl 4 rfl) ?_
            refine lv_aload_n hx hb dX10_isReached_20 rfl (lv_at hl 0 rfl) ?_
            refine lv_iload_n hx hb dX10_isReached_21 rfl (lv_at hl 3 rfl) ?_
            refine lv_bipush (v := (11 : Int32)) hx hb dX10_isReached_22 (by decide) ?_
            obtain ⟨r7, hc6, h⟩ := dw_bdS h
            refine dw_cVi C0 Z dw_hA (dw_lt dw_kc143 (by decide)) (dw_cz10 dw_kc143) rfl (As := [.int x2, .int (11 : Int32)]) (rest := [.int x5]) (kX10_pipeOf l Γ hj μ x2 (11 : Int32) hc6) (dw_gV tw_lX10_55 tw_vX10_pipeOf tw_eX10_pipeOf tw_iX10 tw_kX10_pipeOf) dw_hX10_pipeOf ⟨Nat.le_of_ble_eq_true rfl, Nat.le_of_ble_eq_true rfl⟩ ⟨Nat.zero_le _, Nat.zero_le _⟩ hl.1 (Nat.le_of_ble_eq_true rfl) rfl dX10_isReached_24 (fun H locs Z => ?_)
            refine lv_icmp_ge (tgt := 112) hx hb dX10_isReached_27 (by decide) (fun c8 => ?_) (fun c8 => ?_)
            · have h := dw_ifT c8 h
              obtain rfl := dw_s1 h
              exact E18 x4 H locs ls Z (lv_sub hl [0, 1, 2, 3] rfl) hq18
            · have h := dw_ifF c8 h
              refine lv_aload_n hx hb dX10_isReached_30 rfl (lv_at hl 0 rfl) ?_
              refine lv_iload_n hx hb dX10_isReached_31 rfl (lv_at hl 3 rfl) ?_
              obtain ⟨r10, hc9, h⟩ := dw_bdS h
              refine dw_cVi C0 Z dw_hA (dw_lt dw_kc143 (by decide)) (dw_cz10 dw_kc143) rfl (As := [.int x2]) (rest := []) (kX10_isLateral l Γ hj μ x2 hc9) (dw_gV tw_lX10_89 tw_vX10_isLateral tw_eX10_isLateral tw_iX10 tw_kX10_isLateral) dw_hX10_isLateral ⟨Nat.le_of_ble_eq_true rfl, Nat.le_of_ble_eq_true rfl⟩ ⟨Nat.zero_le _, Nat.zero_le _⟩ hl.1 (Nat.le_of_ble_eq_true rfl) rfl dX10_isReached_32 (fun H locs Z => ?_)
              refine lv_if_eq (tgt := 112) hx hb dX10_isReached_35 (by decide) (fun c11 => ?_) (fun c11 => ?_)
              · have h := dw_ifT c11 h
                obtain rfl := dw_s1 h
                exact E18 x4 H locs ls Z (lv_sub hl [0, 1, 2, 3] rfl) hq18
              · have h := dw_ifF c11 h
                refine lv_aload_n hx hb dX10_isReached_38 rfl (lv_at hl 0 rfl) ?_
                refine lv_iload_n hx hb dX10_isReached_39 rfl (lv_at hl 1 rfl) ?_
                obtain ⟨r13, hc12, h⟩ := dw_bdS h
                refine dw_cVi C0 Z dw_hA (dw_lt dw_kc143 (by decide)) (dw_cz10 dw_kc143) rfl (As := [.int a1]) (rest := []) (kX10_rowOf l Γ hj μ a1 hc12) (dw_gV tw_lX10_37 tw_vX10_rowOf tw_eX10_rowOf tw_iX10 tw_kX10_rowOf) dw_hX10_rowOf ⟨Nat.le_of_ble_eq_true rfl, Nat.le_of_ble_eq_true rfl⟩ ⟨Nat.zero_le _, Nat.zero_le _⟩ hl.1 (Nat.le_of_ble_eq_true rfl) rfl dX10_isReached_40 (fun H locs Z => ?_)
                refine lv_aload_n hx hb dX10_isReached_43 rfl (lv_at hl 0 rfl) ?_
                refine lv_aload_n hx hb dX10_isReached_44 rfl (lv_at hl 0 rfl) ?_
                refine lv_iload_n hx hb dX10_isReached_45 rfl (lv_at hl 3 rfl) ?_
                refine lv_iload hx hb dX10_isReached_46 (lv_at hl 4 rfl) ?_
                obtain ⟨r15, hc14, h⟩ := dw_bdS h
                refine dw_cVi C0 Z dw_hA (dw_lt dw_kc143 (by decide)) (dw_cz10 dw_kc143) rfl (As := [.int x2, .int x5]) (rest := [.ref (dw_ad Γ 143), .int r13]) (kX10_stepPlace l Γ hj μ x2 x5 hc14) (dw_gV tw_lX10_59 tw_vX10_stepPlace tw_eX10_stepPlace tw_iX10 tw_kX10_stepPlace) dw_hX10_stepPlace ⟨Nat.le_of_ble_eq_true rfl, Nat.le_of_ble_eq_true rfl⟩ ⟨Nat.zero_le _, Nat.zero_le _⟩ hl.1 (Nat.le_of_ble_eq_true rfl) rfl dX10_isReached_48 (fun H locs Z => ?_)
                obtain ⟨r17, hc16, h⟩ := dw_bdS h
                refine dw_cVi C0 Z dw_hA (dw_lt dw_kc143 (by decide)) (dw_cz10 dw_kc143) rfl (As := [.int r15]) (rest := [.int r13]) (kX10_rowOf l Γ hj μ r15 hc16) (dw_gV tw_lX10_37 tw_vX10_rowOf tw_eX10_rowOf tw_iX10 tw_kX10_rowOf) dw_hX10_rowOf ⟨Nat.le_of_ble_eq_true rfl, Nat.le_of_ble_eq_true rfl⟩ ⟨Nat.zero_le _, Nat.zero_le _⟩ hl.1 (Nat.le_of_ble_eq_true rfl) rfl dX10_isReached_51 (fun H locs Z => ?_)
                refine lv_isub hx hb dX10_isReached_54 ?_
                refine lv_topi (fun x18 ex18 => ?_)
                have h := dw_nmS ex18 h
                refine lv_istore (lv' := [(5, .int x18), (0, .ref (dw_ad Γ 143)), (1, .int a1), (2, .int x4), (3, .int x2), (4, .int x5)]) hx hb dX10_isReached_55 hl (by decide) rfl (fun ls hl => ?_)
                refine lv_aload_n hx hb dX10_isReached_57 rfl (lv_at hl 1 rfl) ?_
                refine lv_iload_n hx hb dX10_isReached_58 rfl (lv_at hl 2 rfl) ?_
                obtain ⟨r20, hc19, h⟩ := dw_bdS h
                refine dw_cVi C0 Z dw_hA (dw_lt dw_kc143 (by decide)) (dw_cz10 dw_kc143) rfl (As := [.int a1]) (rest := []) (kX10_columnOf l Γ hj μ a1 hc19) (dw_gV tw_lX10_41 tw_vX10_columnOf tw_eX10_columnOf tw_iX10 tw_kX10_columnOf) dw_hX10_columnOf ⟨Nat.le_of_ble_eq_true rfl, Nat.le_of_ble_eq_true rfl⟩ ⟨Nat.zero_le _, Nat.zero_le _⟩ hl.1 (Nat.le_of_ble_eq_true rfl) rfl dX10_isReached_59 (fun H locs Z => ?_)
                refine lv_aload_n hx hb dX10_isReached_62 rfl (lv_at hl 1 rfl) ?_
                refine lv_aload_n hx hb dX10_isReached_63 rfl (lv_at hl 1 rfl) ?_
                refine lv_iload_n hx hb dX10_isReached_64 rfl (lv_at hl 4 rfl) ?_
                refine lv_iload hx hb dX10_isReached_65 (lv_at hl 5 rfl) ?_
                obtain ⟨r22, hc21, h⟩ := dw_bdS h
                refine dw_cVi C0 Z dw_hA (dw_lt dw_kc143 (by decide)) (dw_cz10 dw_kc143) rfl (As := [.int x2, .int x5]) (rest := [.ref (dw_ad Γ 143), .int r20]) (kX10_stepPlace l Γ hj μ x2 x5 hc21) (dw_gV tw_lX10_59 tw_vX10_stepPlace tw_eX10_stepPlace tw_iX10 tw_kX10_stepPlace) dw_hX10_stepPlace ⟨Nat.le_of_ble_eq_true rfl, Nat.le_of_ble_eq_true rfl⟩ ⟨Nat.zero_le _, Nat.zero_le _⟩ hl.1 (Nat.le_of_ble_eq_true rfl) rfl dX10_isReached_67 (fun H locs Z => ?_)
                obtain ⟨r24, hc23, h⟩ := dw_bdS h
                refine dw_cVi C0 Z dw_hA (dw_lt dw_kc143 (by decide)) (dw_cz10 dw_kc143) rfl (As := [.int r22]) (rest := [.int r20]) (kX10_columnOf l Γ hj μ r22 hc23) (dw_gV tw_lX10_41 tw_vX10_columnOf tw_eX10_columnOf tw_iX10 tw_kX10_columnOf) dw_hX10_columnOf ⟨Nat.le_of_ble_eq_true rfl, Nat.le_of_ble_eq_true rfl⟩ ⟨Nat.zero_le _, Nat.zero_le _⟩ hl.1 (Nat.le_of_ble_eq_true rfl) rfl dX10_isReached_70 (fun H locs Z => ?_)
                refine lv_isub hx hb dX10_isReached_73 ?_
                refine lv_topi (fun x25 ex25 => ?_)
                have h := dw_nmS ex25 h
                refine lv_istore (lv' := [(6, .int x25), (5, .int x18), (0, .ref (dw_ad Γ 143)), (1, .int a1), (2, .int x4), (3, .int x2), (4, .int x5)]) hx hb dX10_isReached_74 hl (by decide) rfl (fun ls hl => ?_)
                refine lv_iload_n hx hb dX10_isReached_76 rfl (lv_at hl 4 rfl) ?_
                refine lv_if_ne (tgt := 100) hx hb dX10_isReached_77 (by decide) (fun c26 => ?_) (fun c26 => ?_)
                · have h := dw_ifF c26 h
                  refine lv_iconst (v := (1 : Int32)) hx hb dX10_isReached_100 (by decide) ?_
                  refine lv_goto (tgt := 105) hx hb dX10_isReached_101 (by decide) ?_
                  refine lv_istore_n (lv' := [(2, .int (1 : Int32)), (6, .int x25), (5, .int x18), (0, .ref (dw_ad Γ 143)), (1, .int a1), (3, .int x2), (4, .int x5)]) hx hb dX10_isReached_105 rfl hl (by decide) rfl (fun ls hl => ?_)
                  obtain ⟨x27, ex27⟩ := dw_eg (x5 + (1 : Int32))
                  have h := dw_nmS ex27 h
                  refine lv_iinc (v := x27) (lv' := [(4, .int x27), (2, .int (1 : Int32)), (6, .int x25), (5, .int x18), (0, .ref (dw_ad Γ 143)), (1, .int a1), (3, .int x2)]) hx hb dX10_isReached_106 hl (k := 6) rfl (by rw [ex27]; rfl) (by decide) rfl (fun ls hl => ?_)
                  refine lv_goto (tgt := 18) hx hb dX10_isReached_109 (by decide) ?_
                  obtain rfl := dw_s1 h
                  exact ih18 (1 : Int32) x27 H locs ls Z (lv_sub hl [4, 5, 1, 6, 0] rfl) hq18
                · have h := dw_ifT c26 h
                  refine lv_iload hx hb dX10_isReached_80 (lv_at hl 1 rfl) ?_
                  refine lv_iload hx hb dX10_isReached_82 (lv_at hl 1 rfl) ?_
                  refine lv_imul hx hb dX10_isReached_84 ?_
                  refine lv_iload hx hb dX10_isReached_85 (lv_at hl 0 rfl) ?_
                  refine lv_iload hx hb dX10_isReached_87 (lv_at hl 0 rfl) ?_
                  refine lv_imul hx hb dX10_isReached_89 ?_
                  refine lv_iadd hx hb dX10_isReached_90 ?_
                  refine lv_aload_n hx hb dX10_isReached_91 rfl (lv_at hl 2 rfl) ?_
                  refine lv_iload_n hx hb dX10_isReached_92 rfl (lv_at hl 3 rfl) ?_
                  refine lv_iconst (v := (3 : Int32)) hx hb dX10_isReached_93 (by decide) ?_
                  obtain ⟨r29, hc28, h⟩ := dw_bdS h
                  refine dw_cVi C0 Z dw_hA (dw_lt dw_kc143 (by decide)) (dw_cz10 dw_kc143) rfl (As := [.int a1, .int (3 : Int32)]) (rest := [.int ((x18 * x18) + (x25 * x25))]) (kX10_soilOf l Γ hj μ a1 (3 : Int32) hc28) (dw_gV tw_lX10_86 tw_vX10_soilOf tw_eX10_soilOf tw_iX10 tw_kX10_soilOf) dw_hX10_soilOf ⟨Nat.le_of_ble_eq_true rfl, Nat.le_of_ble_eq_true rfl⟩ ⟨Nat.zero_le _, Nat.zero_le _⟩ hl.1 (Nat.le_of_ble_eq_true rfl) rfl dX10_isReached_94 (fun H locs Z => ?_)
                  refine lv_icmp_gt (tgt := 104) hx hb dX10_isReached_97 (by decide) (fun c30 => ?_) (fun c30 => ?_)
                  · have h := dw_ifT c30 h
                    refine lv_iconst (v := (0 : Int32)) hx hb dX10_isReached_104 (by decide) ?_
                    refine lv_istore_n (lv' := [(2, .int (0 : Int32)), (6, .int x25), (5, .int x18), (0, .ref (dw_ad Γ 143)), (1, .int a1), (3, .int x2), (4, .int x5)]) hx hb dX10_isReached_105 rfl hl (by decide) rfl (fun ls hl => ?_)
                    obtain ⟨x31, ex31⟩ := dw_eg (x5 + (1 : Int32))
                    have h := dw_nmS ex31 h
                    refine lv_iinc (v := x31) (lv' := [(4, .int x31), (2, .int (0 : Int32)), (6, .int x25), (5, .int x18), (0, .ref (dw_ad Γ 143)), (1, .int a1), (3, .int x2)]) hx hb dX10_isReached_106 hl (k := 6) rfl (by rw [ex31]; rfl) (by decide) rfl (fun ls hl => ?_)
                    refine lv_goto (tgt := 18) hx hb dX10_isReached_109 (by decide) ?_
                    obtain rfl := dw_s1 h
                    exact ih18 (0 : Int32) x31 H locs ls Z (lv_sub hl [4, 5, 1, 6, 0] rfl) hq18
                  · have h := dw_ifF c30 h
                    refine lv_iconst (v := (1 : Int32)) hx hb dX10_isReached_100 (by decide) ?_
                    refine lv_goto (tgt := 105) hx hb dX10_isReached_101 (by decide) ?_
                    refine lv_istore_n (lv' := [(2, .int (1 : Int32)), (6, .int x25), (5, .int x18), (0, .ref (dw_ad Γ 143)), (1, .int a1), (3, .int x2), (4, .int x5)]) hx hb dX10_isReached_105 rfl hl (by decide) rfl (fun ls hl => ?_)
                    obtain ⟨x32, ex32⟩ := dw_eg (x5 + (1 : Int32))
                    have h := dw_nmS ex32 h
                    refine lv_iinc (v := x32) (lv' := [(4, .int x32), (2, .int (1 : Int32)), (6, .int x25), (5, .int x18), (0, .ref (dw_ad Γ 143)), (1, .int a1), (3, .int x2)]) hx hb dX10_isReached_106 hl (k := 6) rfl (by rw [ex32]; rfl) (by decide) rfl (fun ls hl => ?_)
                    refine lv_goto (tgt := 18) hx hb dX10_isReached_109 (by decide) ?_
                    obtain rfl := dw_s1 h
                    exact ih18 (1 : Int32) x32 H locs ls Z (lv_sub hl [4, 5, 1, 6, 0] rfl) hq18
        exact L18 1000 x1 (0 : Int32) H locs ls Z (lv_sub hl [1, 2, 3, 4, 0] rfl) h
  exact L4 1000 (0 : Int32) (0 : Int32) H locs ls Z (lv_sub hl [2, 3, 1, 0] rfl) h
