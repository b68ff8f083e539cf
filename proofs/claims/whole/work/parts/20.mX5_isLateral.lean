def fX5_isLateral (μ : dw_M) (i : Nat) : Int32 :=
  if (μ.1 i 1) = 0 then (
   (1 : Int32))
  else (
  if (μ.1 i 1) = (2 : Int32) then (
   (1 : Int32))
  else (
   (0 : Int32)))
set_option maxHeartbeats 4000000 in
set_option maxRecDepth 100000 in
theorem kX5_isLateral (l : Launch) (Γ : dw_G) (hj : dw_inj Γ) (μ : dw_M) (i : Nat) (hk_i : dw_kd i = 5) {r : Int32} (h : fX5_isLateral μ i = r) : Met l yX5_isLateral (dw_ws yX5_isLateral cX5_isLateral 1 (some .boolean)) (dw_rm 0 0) (dw_P Γ ([.ref (dw_ad Γ i)] : List Value) μ) (dw_Qi Γ r μ) 0 0 (dw_A Γ) := by
  refine dw_met (own := RX5) rfl rfl (Nat.le_of_ble_eq_true rfl) hj ?_
  intro p e s m below meth c C0 hr hlk Z ls hl
  have hx := C0.1
  have hb := C0.2.1
  have hl : lv_has ls 1 [(0, .ref (dw_ad Γ i))] := hl
  suffices key : ∀ (H : Heap) (locs : List Loc), dw_Z Γ (dw_A Γ) s.heap μ H locs → W p l e (dw_rm 0 0) s m ([.ref (dw_ad Γ i)] : List Value).toArray below meth c H locs 0 0 (MQ below (dw_Qi Γ r μ) ([.ref (dw_ad Γ i)] : List Value).toArray s 0 0 (dw_A Γ)) (F0 m 0 ls []) from key _ _ Z
  clear Z
  intro H locs Z
  unfold fX5_isLateral at h
  refine lv_aload_n hx hb dX5_isLateral_0 rfl (lv_at hl 0 rfl) ?_
  refine dw_g5_1 C0 Z hk_i tw_fX5_22 dX5_isLateral_1 ?_
  refine lv_if_eq (tgt := 15) hx hb dX5_isLateral_4 (by decide) (fun c1 => ?_) (fun c1 => ?_)
  · have h := dw_ifT c1 h
    refine lv_iconst (v := (1 : Int32)) hx hb dX5_isLateral_15 (by decide) ?_
    refine lv_goto (tgt := 20) hx hb dX5_isLateral_16 (by decide) ?_
    obtain rfl := dw_t1 h
    exact dw_zret C0 Z hr hlk rfl dX5_isLateral_20
  · have h := dw_ifF c1 h
    refine lv_aload_n hx hb dX5_isLateral_7 rfl (lv_at hl 0 rfl) ?_
    refine dw_g5_1 C0 Z hk_i tw_fX5_22 dX5_isLateral_8 ?_
    refine lv_iconst (v := (2 : Int32)) hx hb dX5_isLateral_11 (by decide) ?_
    refine lv_icmp_ne (tgt := 19) hx hb dX5_isLateral_12 (by decide) (fun c2 => ?_) (fun c2 => ?_)
    · have h := dw_ifF c2 h
      refine lv_iconst (v := (0 : Int32)) hx hb dX5_isLateral_19 (by decide) ?_
      obtain rfl := dw_t1 h
      exact dw_zret C0 Z hr hlk rfl dX5_isLateral_20
    · have h := dw_ifT c2 h
      refine lv_iconst (v := (1 : Int32)) hx hb dX5_isLateral_15 (by decide) ?_
      refine lv_goto (tgt := 20) hx hb dX5_isLateral_16 (by decide) ?_
      obtain rfl := dw_t1 h
      exact dw_zret C0 Z hr hlk rfl dX5_isLateral_20
theorem zX5_isLateral (μ : dw_M) (i : Nat) : narrow .boolean (.int (fX5_isLateral μ i)) = .int (fX5_isLateral μ i) := by
  unfold fX5_isLateral
  repeat' split
  all_goals first | rfl

def fX3_placeAt (μ : dw_M) (i : Nat) (a1 : Int32) : Int32 :=
   ((μ.1 i 0) + (a1 * (μ.1 i 1)))
set_option maxHeartbeats 4000000 in
set_option maxRecDepth 100000 in
theorem kX3_placeAt (l : Launch) (Γ : dw_G) (hj : dw_inj Γ) (μ : dw_M) (i : Nat) (hk_i : dw_kd i = 3) (a1 : Int32) {r : Int32} (h : fX3_placeAt μ i a1 = r) : Met l yX3_placeAt (dw_ws yX3_placeAt cX3_placeAt 2 (some .int)) (dw_rm 0 0) (dw_P Γ ([.ref (dw_ad Γ i), .int a1] : List Value) μ) (dw_Qi Γ r μ) 0 0 (dw_A Γ) := by
  refine dw_met (own := RX3) rfl rfl (Nat.le_of_ble_eq_true rfl) hj ?_
  intro p e s m below meth c C0 hr hlk Z ls hl
  have hx := C0.1
  have hb := C0.2.1
  have hl : lv_has ls 2 [(0, .ref (dw_ad Γ i)), (1, .int a1)] := hl
  suffices key : ∀ (H : Heap) (locs : List Loc), dw_Z Γ (dw_A Γ) s.heap μ H locs → W p l e (dw_rm 0 0) s m ([.ref (dw_ad Γ i), .int a1] : List Value).toArray below meth c H locs 0 0 (MQ below (dw_Qi Γ r μ) ([.ref (dw_ad Γ i), .int a1] : List Value).toArray s 0 0 (dw_A Γ)) (F0 m 0 ls []) from key _ _ Z
  clear Z
  intro H locs Z
  unfold fX3_placeAt at h
  refine lv_aload_n hx hb dX3_placeAt_0 rfl (lv_at hl 0 rfl) ?_
  refine dw_g3_0 C0 Z hk_i tw_fX3_7 dX3_placeAt_1 ?_
  refine lv_iload_n hx hb dX3_placeAt_4 rfl (lv_at hl 1 rfl) ?_
  refine lv_aload_n hx hb dX3_placeAt_5 rfl (lv_at hl 0 rfl) ?_
  refine dw_g3_1 C0 Z hk_i tw_fX3_13 dX3_placeAt_6 ?_
  refine lv_imul hx hb dX3_placeAt_9 ?_
  refine lv_iadd hx hb dX3_placeAt_10 ?_
  obtain rfl := dw_t1 h
  exact dw_iret C0 Z hr hlk dX3_placeAt_11

def sX3_stepOn_2 (μ : dw_M) (i : Nat) (a1 : Int32) (x1 : Int32) : Option ((Int32) ⊕ ((Unit) ⊕ (Int32))) :=
  if (μ.1 i 2) ≤ x1 then (
  some (.inr (.inl ())))
  else (
  if (fX3_placeAt μ i x1) = a1 then (
  some (.inr (.inr x1)))
  else (
  dw_nm (x1 + (1 : Int32)) (fun x4 =>
  some (.inl x4))))
def fX3_stepOn (μ : dw_M) (i : Nat) (a1 : Int32) : Option (Int32) :=
  dw_bd (dw_wh (fun v => sX3_stepOn_2 μ i a1 v) 1000 (0 : Int32))
    (Sum.elim (fun _ => some (-1 : Int32)) (fun r => some r))
set_option maxHeartbeats 4000000 in
set_option maxRecDepth 100000 in
theorem kX3_stepOn (l : Launch) (Γ : dw_G) (hj : dw_inj Γ) (μ : dw_M) (i : Nat) (hk_i : dw_kd i = 3) (a1 : Int32) {r : Int32} (h : fX3_stepOn μ i a1 = some r) : Met l yX3_stepOn (dw_ws yX3_stepOn cX3_stepOn 3 (some .int)) (dw_rm 1 21) (dw_P Γ ([.ref (dw_ad Γ i), .int a1] : List Value) μ) (dw_Qi Γ r μ) 0 0 (dw_A Γ) := by
  refine dw_met (own := RX3) rfl rfl (Nat.le_of_ble_eq_true rfl) hj ?_
  intro p e s m below meth c C0 hr hlk Z ls hl
  have hx := C0.1
  have hb := C0.2.1
  have hl : lv_has ls 3 [(0, .ref (dw_ad Γ i)), (1, .int a1)] := hl
  suffices key : ∀ (H : Heap) (locs : List Loc), dw_Z Γ (dw_A Γ) s.heap μ H locs → W p l e (dw_rm 1 21) s m ([.ref (dw_ad Γ i), .int a1] : List Value).toArray below meth c H locs 0 0 (MQ below (dw_Qi Γ r μ) ([.ref (dw_ad Γ i), .int a1] : List Value).toArray s 0 0 (dw_A Γ)) (F0 m 0 ls []) from key _ _ Z
  clear Z
  intro H locs Z
  unfold fX3_stepOn at h
  refine lv_iconst (v := (0 : Int32)) hx hb dX3_stepOn_0 (by decide) ?_
  refine lv_istore_n (lv' := [(2, .int (0 : Int32)), (0, .ref (dw_ad Γ i)), (1, .int a1)]) hx hb dX3_stepOn_1 rfl hl (by decide) rfl (fun ls hl => ?_)
  obtain ⟨kc2, ekc2, h⟩ := dw_bdK h
  have E2 : ∀ (H : Heap) (locs : List Loc) (ls : Array Slot), dw_Z Γ (dw_A Γ) s.heap μ H locs → lv_has ls 3 [] → kc2 (.inl ()) = some r → W p l e (dw_rm 1 21) s m ([.ref (dw_ad Γ i), .int a1] : List Value).toArray below meth c H locs 0 0 (MQ below (dw_Qi Γ r μ) ([.ref (dw_ad Γ i), .int a1] : List Value).toArray s 0 0 (dw_A Γ)) (F0 m 27 ls []) := by
    intro  H locs ls Z hl h
    rw [ekc2] at h
    dsimp only [Sum.elim] at h
    refine lv_iconst (v := (-1 : Int32)) hx hb dX3_stepOn_27 (by decide) ?_
    obtain rfl := dw_s1 h
    exact dw_iret C0 Z hr hlk dX3_stepOn_28
  have L2 : ∀ (n2 : Nat) (x1 : Int32) (H : Heap) (locs : List Loc) (ls : Array Slot), dw_Z Γ (dw_A Γ) s.heap μ H locs → lv_has ls 3 [(0, .ref (dw_ad Γ i)), (1, .int a1), (2, .int x1)] → dw_bd (dw_wh (fun v => sX3_stepOn_2 μ i a1 v) n2 x1) kc2 = some r → W p l e (dw_rm 1 21) s m ([.ref (dw_ad Γ i), .int a1] : List Value).toArray below meth c H locs 0 0 (MQ below (dw_Qi Γ r μ) ([.ref (dw_ad Γ i), .int a1] : List Value).toArray s 0 0 (dw_A Γ)) (F0 m 2 ls []) := by
    clear h
    intro n2
    induction n2 with
    | zero =>
      intro x1 H locs ls Z hl h
      exact (dw_wh0 h).elim
    | succ n2 ih2 =>
      intro x1 H locs ls Z hl h
      obtain ⟨q2, hs, hq2⟩ := dw_whB h
      have h : sX3_stepOn_2 μ i a1 x1 = some q2 := hs
      unfold sX3_stepOn_2 at h
      refine lv_iload_n hx hb dX3_stepOn_2 rfl (lv_at hl 2 rfl) ?_
      refine lv_aload_n hx hb dX3_stepOn_3 rfl (lv_at hl 0 rfl) ?_
      refine dw_g3_2 C0 Z hk_i tw_fX3_16 dX3_stepOn_4 ?_
      refine lv_icmp_ge (tgt := 27) hx hb dX3_stepOn_7 (by decide) (fun c2 => ?_) (fun c2 => ?_)
      · have h := dw_ifT c2 h
        obtain rfl := dw_s1 h
        exact E2  H locs ls Z (lv_sub hl [] rfl) hq2
      · have h := dw_ifF c2 h
        refine lv_aload_n hx hb dX3_stepOn_10 rfl (lv_at hl 0 rfl) ?_
        refine lv_iload_n hx hb dX3_stepOn_11 rfl (lv_at hl 2 rfl) ?_
        refine dw_cVi C0 Z dw_hA (dw_lt hk_i (by decide)) (dw_cz3 hk_i) rfl (As := [.int x1]) (rest := []) (kX3_placeAt l Γ hj μ i hk_i x1 rfl) (dw_gV tw_lX3_29 tw_vX3_placeAt tw_eX3_placeAt tw_iX3 tw_kX3_placeAt) dw_hX3_placeAt ⟨Nat.le_of_ble_eq_true rfl, Nat.le_of_ble_eq_true rfl⟩ ⟨Nat.zero_le _, Nat.zero_le _⟩ hl.1 (Nat.le_of_ble_eq_true rfl) rfl dX3_stepOn_12 (fun H locs Z => ?_)
        refine lv_iload_n hx hb dX3_stepOn_15 rfl (lv_at hl 1 rfl) ?_
        refine lv_icmp_ne (tgt := 21) hx hb dX3_stepOn_16 (by decide) (fun c3 => ?_) (fun c3 => ?_)
        · have h := dw_ifF c3 h
          obtain ⟨x4, ex4⟩ := dw_eg (x1 + (1 : Int32))
          have h := dw_nmS ex4 h
          refine lv_iinc (v := x4) (lv' := [(2, .int x4), (0, .ref (dw_ad Γ i)), (1, .int a1)]) hx hb dX3_stepOn_21 hl (k := 2) rfl (by rw [ex4]; rfl) (by decide) rfl (fun ls hl => ?_)
          refine lv_goto (tgt := 2) hx hb dX3_stepOn_24 (by decide) ?_
          obtain rfl := dw_s1 h
          exact ih2 x4 H locs ls Z (lv_sub hl [1, 2, 0] rfl) hq2
        · have h := dw_ifT c3 h
          refine lv_iload_n hx hb dX3_stepOn_19 rfl (lv_at hl 2 rfl) ?_
          obtain rfl := dw_s1 h
          have h := hq2
          dsimp only at h
          rw [ekc2] at h
          dsimp only [Sum.elim] at h
          obtain rfl := dw_s1 h
          exact dw_iret C0 Z hr hlk dX3_stepOn_20
  exact L2 1000 (0 : Int32) H locs ls Z (lv_sub hl [1, 2, 0] rfl) h

def sX0_planDrains_5 (a1 : Int32) (x1 : Int32) (x2 : Int32) (μ3 : dw_M) : Option ((Int32 × Int32 × dw_M) ⊕ ((Int32 × dw_M))) :=
  if (μ3.1 11 1) ≤ x2 then (
  some (.inr (x1, μ3)))
  else (
  dw_gd (dw_ok x2 20) (
  if (fX5_isLateral μ3 (12 + 1 + 2 * x2.toNatClampNeg)) = 0 then (
  dw_nm (x2 + (1 : Int32)) (fun x7 =>
  some (.inl (x1, x7, μ3))))
  else (
  dw_bd (fX3_stepOn μ3 ((12 + 1 + 2 * x2.toNatClampNeg) + 1) a1) (fun r9 =>
  if r9 < 0 then (
  dw_nm (x2 + (1 : Int32)) (fun x11 =>
  some (.inl (x1, x11, μ3))))
  else (
  dw_gd (dw_ok ((a1 * (20 : Int32)) + x1) 720) (
  dw_nm (dw_st μ3 138 ((a1 * (20 : Int32)) + x1).toNatClampNeg x2) (fun μ13 =>
  dw_nm (x1 + (1 : Int32)) (fun x14 =>
  dw_nm (x2 + (1 : Int32)) (fun x15 =>
  some (.inl (x14, x15, μ13)))))))))))
def fX0_planDrains (μ : dw_M) (a1 : Int32) : Option (Int32 × dw_M) :=
  dw_bd (dw_wh (fun v => sX0_planDrains_5 a1 v.1 v.2.1 v.2.2) 1000 ((0 : Int32), (0 : Int32), μ))
    (fun v => (fun x16 μ17 => some (x16, μ17)) v.1 v.2)
set_option maxHeartbeats 4000000 in
set_option maxRecDepth 100000 in
theorem kX0_planDrains (l : Launch) (Γ : dw_G) (hj : dw_inj Γ) (μ : dw_M) (a1 : Int32) {r : Int32} {ν : dw_M} (h : fX0_planDrains μ a1 = some (r, ν)) : Met l yX0_planDrains (dw_ws yX0_planDrains cX0_planDrains 5 (some .int)) (dw_rm 2 43) (dw_P Γ ([.ref (dw_ad Γ 135), .ref (dw_ad Γ 11), .int a1] : List Value) μ) (dw_Qi Γ r ν) 0 0 (dw_A Γ) := by
  refine dw_met (own := RX0) rfl rfl (Nat.le_of_ble_eq_true rfl) hj ?_
  intro p e s m below meth c C0 hr hlk Z ls hl
  have hx := C0.1
  have hb := C0.2.1
  have hl : lv_has ls 5 [(0, .ref (dw_ad Γ 135)), (1, .ref (dw_ad Γ 11)), (2, .int a1)] := hl
  suffices key : ∀ (H : Heap) (locs : List Loc), dw_Z Γ (dw_A Γ) s.heap μ H locs → W p l e (dw_rm 2 43) s m ([.ref (dw_ad Γ 135), .ref (dw_ad Γ 11), .int a1] : List Value).toArray below meth c H locs 0 0 (MQ below (dw_Qi Γ r ν) ([.ref (dw_ad Γ 135), .ref (dw_ad Γ 11), .int a1] : List Value).toArray s 0 0 (dw_A Γ)) (F0 m 0 ls []) from key _ _ Z
  clear Z
  intro H locs Z
  unfold fX0_planDrains at h
  refine lv_iconst (v := (0 : Int32)) hx hb dX0_planDrains_0 (by decide) ?_
  refine lv_istore_n (lv' := [(3, .int (0 : Int32)), (0, .ref (dw_ad Γ 135)), (1, .ref (dw_ad Γ 11)), (2, .int a1)]) hx hb dX0_planDrains_1 rfl hl (by decide) rfl (fun ls hl => ?_)
  refine lv_iconst (v := (0 : Int32)) hx hb dX0_planDrains_2 (by decide) ?_
  refine lv_istore (lv' := [(4, .int (0 : Int32)), (3, .int (0 : Int32)), (0, .ref (dw_ad Γ 135)), (1, .ref (dw_ad Γ 11)), (2, .int a1)]) hx hb dX0_planDrains_3 hl (by decide) rfl (fun ls hl => ?_)
  obtain ⟨kc5, ekc5, h⟩ := dw_bdK h
  have E5 : ∀ (x16 : Int32) (μ17 : dw_M) (H : Heap) (locs : List Loc) (ls : Array Slot), dw_Z Γ (dw_A Γ) s.heap μ17 H locs → lv_has ls 5 [(3, .int x16)] → kc5 (x16, μ17) = some (r, ν) → W p l e (dw_rm 2 43) s m ([.ref (dw_ad Γ 135), .ref (dw_ad Γ 11), .int a1] : List Value).toArray below meth c H locs 0 0 (MQ below (dw_Qi Γ r ν) ([.ref (dw_ad Γ 135), .ref (dw_ad Γ 11), .int a1] : List Value).toArray s 0 0 (dw_A Γ)) (F0 m 66 ls []) := by
    intro x16 μ17 H locs ls Z hl h
    rw [ekc5] at h
    dsimp only at h
    refine lv_iload_n hx hb dX0_planDrains_66 rfl (lv_at hl 0 rfl) ?_
    obtain ⟨rfl, rfl⟩ := dw_s2 h
    exact dw_iret C0 Z hr hlk dX0_planDrains_67
  have L5 : ∀ (n5 : Nat) (x1 : Int32) (x2 : Int32) (μ3 : dw_M) (H : Heap) (locs : List Loc) (ls : Array Slot), dw_Z Γ (dw_A Γ) s.heap μ3 H locs → lv_has ls 5 [(0, .ref (dw_ad Γ 135)), (1, .ref (dw_ad Γ 11)), (2, .int a1), (3, .int x1), (4, .int x2)] → dw_bd (dw_wh (fun v => sX0_planDrains_5 a1 v.1 v.2.1 v.2.2) n5 (x1, x2, μ3)) kc5 = some (r, ν) → W p l e (dw_rm 2 43) s m ([.ref (dw_ad Γ 135), .ref (dw_ad Γ 11), .int a1] : List Value).toArray below meth c H locs 0 0 (MQ below (dw_Qi Γ r ν) ([.ref (dw_ad Γ 135), .ref (dw_ad Γ 11), .int a1] : List Value).toArray s 0 0 (dw_A Γ)) (F0 m 5 ls []) := by
    clear h
    intro n5
    induction n5 with
    | zero =>
      intro x1 x2 μ3 H locs ls Z hl h
      exact (dw_wh0 h).elim
    | succ n5 ih5 =>
      intro x1 x2 μ3 H locs ls Z hl h
      obtain ⟨q5, hs, hq5⟩ := dw_whB h
      have h : sX0_planDrains_5 a1 x1 x2 μ3 = some q5 := hs
      unfold sX0_planDrains_5 at h
      refine lv_iload hx hb dX0_planDrains_5 (lv_at hl 4 rfl) ?_
      refine lv_aload_n hx hb dX0_planDrains_7 rfl (lv_at hl 1 rfl) ?_
      refine dw_g4_1 C0 Z dw_kc11 tw_fX0_29 dX0_planDrains_8 ?_
      refine lv_icmp_ge (tgt := 66) hx hb dX0_planDrains_11 (by decide) (fun c4 => ?_) (fun c4 => ?_)
      · have h := dw_ifT c4 h
        obtain rfl := dw_s1 h
        exact E5 x1 μ3 H locs ls Z (lv_sub hl [3] rfl) hq5
      · have h := dw_ifF c4 h
        refine lv_aload_n hx hb dX0_planDrains_14 rfl (lv_at hl 1 rfl) ?_
        refine dw_g4_0 (t := 12) C0 Z dw_kc11 tw_fX0_44 rfl dX0_planDrains_15 ?_
        refine lv_iload hx hb dX0_planDrains_18 (lv_at hl 4 rfl) ?_
        obtain ⟨g5, h⟩ := dw_gdS h
        refine dw_aald C0 Z dw_kc12 g5 dX0_planDrains_20 ?_
        refine dw_cVi C0 Z dw_hA (dw_lt (dw_pk dw_kc12 (dw_ok_lt g5)) (by decide)) (dw_cz5 (dw_pk dw_kc12 (dw_ok_lt g5))) rfl (As := []) (rest := []) (kX5_isLateral l Γ hj μ3 (12 + 1 + 2 * x2.toNatClampNeg) (dw_pk dw_kc12 (dw_ok_lt g5)) rfl) (dw_gV tw_lX0_48 tw_vX5_isLateral tw_eX5_isLateral tw_iX5 tw_kX5_isLateral) dw_hX5_isLateral ⟨Nat.le_of_ble_eq_true rfl, Nat.le_of_ble_eq_true rfl⟩ ⟨Nat.zero_le _, Nat.zero_le _⟩ hl.1 (Nat.le_of_ble_eq_true rfl) rfl dX0_planDrains_21 (fun H locs Z => ?_)
        refine lv_if_eq (tgt := 60) hx hb dX0_planDrains_24 (by decide) (fun c6 => ?_) (fun c6 => ?_)
        · have h := dw_ifT c6 h
          obtain ⟨x7, ex7⟩ := dw_eg (x2 + (1 : Int32))
          have h := dw_nmS ex7 h
          refine lv_iinc (v := x7) (lv' := [(4, .int x7), (0, .ref (dw_ad Γ 135)), (1, .ref (dw_ad Γ 11)), (2, .int a1), (3, .int x1)]) hx hb dX0_planDrains_60 hl (k := 4) rfl (by rw [ex7]; rfl) (by decide) rfl (fun ls hl => ?_)
          refine lv_goto (tgt := 5) hx hb dX0_planDrains_63 (by decide) ?_
          obtain rfl := dw_s1 h
          exact ih5 x1 x7 μ3 H locs ls Z (lv_sub hl [1, 2, 3, 4, 0] rfl) hq5
        · have h := dw_ifF c6 h
          refine lv_aload_n hx hb dX0_planDrains_27 rfl (lv_at hl 1 rfl) ?_
          refine dw_g4_0 (t := 12) C0 Z dw_kc11 tw_fX0_44 rfl dX0_planDrains_28 ?_
          refine lv_iload hx hb dX0_planDrains_31 (lv_at hl 4 rfl) ?_
          refine dw_aald C0 Z dw_kc12 g5 dX0_planDrains_33 ?_
          refine dw_g5_0 (t := ((12 + 1 + 2 * x2.toNatClampNeg) + 1)) C0 Z (dw_pk dw_kc12 (dw_ok_lt g5)) tw_fX0_54 rfl dX0_planDrains_34 ?_
          refine lv_iload_n hx hb dX0_planDrains_37 rfl (lv_at hl 2 rfl) ?_
          obtain ⟨r9, hc8, h⟩ := dw_bdS h
          refine dw_cVi C0 Z dw_hA (dw_lt (dw_r5_0 (dw_pk dw_kc12 (dw_ok_lt g5))) (by decide)) (dw_cz3 (dw_r5_0 (dw_pk dw_kc12 (dw_ok_lt g5)))) rfl (As := [.int a1]) (rest := []) (kX3_stepOn l Γ hj μ3 ((12 + 1 + 2 * x2.toNatClampNeg) + 1) (dw_r5_0 (dw_pk dw_kc12 (dw_ok_lt g5))) a1 hc8) (dw_gV tw_lX0_58 tw_vX3_stepOn tw_eX3_stepOn tw_iX3 tw_kX3_stepOn) dw_hX3_stepOn ⟨Nat.le_of_ble_eq_true rfl, Nat.le_of_ble_eq_true rfl⟩ ⟨Nat.zero_le _, Nat.zero_le _⟩ hl.1 (Nat.le_of_ble_eq_true rfl) rfl dX0_planDrains_38 (fun H locs Z => ?_)
          refine lv_if_lt (tgt := 60) hx hb dX0_planDrains_41 (by decide) (fun c10 => ?_) (fun c10 => ?_)
          · have h := dw_ifT c10 h
            obtain ⟨x11, ex11⟩ := dw_eg (x2 + (1 : Int32))
            have h := dw_nmS ex11 h
            refine lv_iinc (v := x11) (lv' := [(4, .int x11), (0, .ref (dw_ad Γ 135)), (1, .ref (dw_ad Γ 11)), (2, .int a1), (3, .int x1)]) hx hb dX0_planDrains_60 hl (k := 4) rfl (by rw [ex11]; rfl) (by decide) rfl (fun ls hl => ?_)
            refine lv_goto (tgt := 5) hx hb dX0_planDrains_63 (by decide) ?_
            obtain rfl := dw_s1 h
            exact ih5 x1 x11 μ3 H locs ls Z (lv_sub hl [1, 2, 3, 4, 0] rfl) hq5
          · have h := dw_ifF c10 h
            refine lv_aload_n hx hb dX0_planDrains_44 rfl (lv_at hl 0 rfl) ?_
            refine dw_g0_3 (t := 138) C0 Z dw_kc135 tw_fX0_18 rfl dX0_planDrains_45 ?_
            refine lv_iload_n hx hb dX0_planDrains_48 rfl (lv_at hl 2 rfl) ?_
            refine lv_bipush (v := (20 : Int32)) hx hb dX0_planDrains_49 (by decide) ?_
            refine lv_imul hx hb dX0_planDrains_51 ?_
            refine lv_iload_n hx hb dX0_planDrains_52 rfl (lv_at hl 3 rfl) ?_
            refine lv_iadd hx hb dX0_planDrains_53 ?_
            refine lv_iload hx hb dX0_planDrains_54 (lv_at hl 4 rfl) ?_
            obtain ⟨g12, h⟩ := dw_gdS h
            refine dw_ast C0 Z dw_hA dw_kc138 dw_lc138 g12 dX0_planDrains_56 (fun μ13 eμ13 H locs Z => ?_)
            have h := dw_nmS eμ13 h
            obtain ⟨x14, ex14⟩ := dw_eg (x1 + (1 : Int32))
            have h := dw_nmS ex14 h
            refine lv_iinc (v := x14) (lv' := [(3, .int x14), (0, .ref (dw_ad Γ 135)), (1, .ref (dw_ad Γ 11)), (2, .int a1), (4, .int x2)]) hx hb dX0_planDrains_57 hl (k := 3) rfl (by rw [ex14]; rfl) (by decide) rfl (fun ls hl => ?_)
            obtain ⟨x15, ex15⟩ := dw_eg (x2 + (1 : Int32))
            have h := dw_nmS ex15 h
            refine lv_iinc (v := x15) (lv' := [(4, .int x15), (3, .int x14), (0, .ref (dw_ad Γ 135)), (1, .ref (dw_ad Γ 11)), (2, .int a1)]) hx hb dX0_planDrains_60 hl (k := 4) rfl (by rw [ex15]; rfl) (by decide) rfl (fun ls hl => ?_)
            refine lv_goto (tgt := 5) hx hb dX0_planDrains_63 (by decide) ?_
            obtain rfl := dw_s1 h
            exact ih5 x14 x15 μ13 H locs ls Z (lv_sub hl [2, 3, 4, 1, 0] rfl) hq5
  exact L5 1000 (0 : Int32) (0 : Int32) μ H locs ls Z (lv_sub hl [2, 3, 4, 1, 0] rfl) h

def fX4_hasPipe (μ : dw_M) (a1 : Int32) : Int32 :=
  if a1 < 0 then (
   (0 : Int32))
  else (
  if (μ.1 11 1) ≤ a1 then (
   (0 : Int32))
  else (
   (1 : Int32)))
set_option maxHeartbeats 4000000 in
set_option maxRecDepth 100000 in
theorem kX4_hasPipe (l : Launch) (Γ : dw_G) (hj : dw_inj Γ) (μ : dw_M) (a1 : Int32) {r : Int32} (h : fX4_hasPipe μ a1 = r) : Met l yX4_hasPipe (dw_ws yX4_hasPipe cX4_hasPipe 2 (some .boolean)) (dw_rm 0 0) (dw_P Γ ([.ref (dw_ad Γ 11), .int a1] : List Value) μ) (dw_Qi Γ r μ) 0 0 (dw_A Γ) := by
  refine dw_met (own := RX4) rfl rfl (Nat.le_of_ble_eq_true rfl) hj ?_
  intro p e s m below meth c C0 hr hlk Z ls hl
  have hx := C0.1
  have hb := C0.2.1
  have hl : lv_has ls 2 [(0, .ref (dw_ad Γ 11)), (1, .int a1)] := hl
  suffices key : ∀ (H : Heap) (locs : List Loc), dw_Z Γ (dw_A Γ) s.heap μ H locs → W p l e (dw_rm 0 0) s m ([.ref (dw_ad Γ 11), .int a1] : List Value).toArray below meth c H locs 0 0 (MQ below (dw_Qi Γ r μ) ([.ref (dw_ad Γ 11), .int a1] : List Value).toArray s 0 0 (dw_A Γ)) (F0 m 0 ls []) from key _ _ Z
  clear Z
  intro H locs Z
  unfold fX4_hasPipe at h
  refine lv_iload_n hx hb dX4_hasPipe_0 rfl (lv_at hl 1 rfl) ?_
  refine lv_if_lt (tgt := 16) hx hb dX4_hasPipe_1 (by decide) (fun c1 => ?_) (fun c1 => ?_)
  · have h := dw_ifT c1 h
    refine lv_iconst (v := (0 : Int32)) hx hb dX4_hasPipe_16 (by decide) ?_
    obtain rfl := dw_t1 h
    exact dw_zret C0 Z hr hlk rfl dX4_hasPipe_17
  · have h := dw_ifF c1 h
    refine lv_iload_n hx hb dX4_hasPipe_4 rfl (lv_at hl 1 rfl) ?_
    refine lv_aload_n hx hb dX4_hasPipe_5 rfl (lv_at hl 0 rfl) ?_
    refine dw_g4_1 C0 Z dw_kc11 tw_fX4_18 dX4_hasPipe_6 ?_
    refine lv_icmp_ge (tgt := 16) hx hb dX4_hasPipe_9 (by decide) (fun c2 => ?_) (fun c2 => ?_)
    · have h := dw_ifT c2 h
      refine lv_iconst (v := (0 : Int32)) hx hb dX4_hasPipe_16 (by decide) ?_
      obtain rfl := dw_t1 h
      exact dw_zret C0 Z hr hlk rfl dX4_hasPipe_17
    · have h := dw_ifF c2 h
      refine lv_iconst (v := (1 : Int32)) hx hb dX4_hasPipe_12 (by decide) ?_
      refine lv_goto (tgt := 17) hx hb dX4_hasPipe_13 (by decide) ?_
      obtain rfl := dw_t1 h
      exact dw_zret C0 Z hr hlk rfl dX4_hasPipe_17
theorem zX4_hasPipe (μ : dw_M) (a1 : Int32) : narrow .boolean (.int (fX4_hasPipe μ a1)) = .int (fX4_hasPipe μ a1) := by
  unfold fX4_hasPipe
  repeat' split
  all_goals first | rfl

def sX4_rankOf_4 (μ : dw_M) (x1 : Int32) (x2 : Int32) : Option ((Int32 × Int32) ⊕ ((Int32))) :=
  if (fX4_hasPipe μ x2) = 0 then (
  some (.inr x1))
  else (
  if (20 : Int32) ≤ x1 then (
  some (.inr x1))
  else (
  dw_nm (x1 + (1 : Int32)) (fun x5 =>
  dw_gd (dw_ok x2 20) (
  dw_nm (μ.1 (12 + 1 + 2 * x2.toNatClampNeg) 5) (fun x7 =>
  some (.inl (x5, x7)))))))
def fX4_rankOf (μ : dw_M) (a1 : Int32) : Option (Int32) :=
  dw_bd (dw_wh (fun v => sX4_rankOf_4 μ v.1 v.2) 1000 ((-1 : Int32), a1))
    (fun x8 => some x8)
set_option maxHeartbeats 4000000 in
set_option maxRecDepth 100000 in
theorem kX4_rankOf (l : Launch) (Γ : dw_G) (hj : dw_inj Γ) (μ : dw_M) (a1 : Int32) {r : Int32} (h : fX4_rankOf μ a1 = some r) : Met l yX4_rankOf (dw_ws yX4_rankOf cX4_rankOf 4 (some .int)) (dw_rm 1 21) (dw_P Γ ([.ref (dw_ad Γ 11), .int a1] : List Value) μ) (dw_Qi Γ r μ) 0 0 (dw_A Γ) := by
  refine dw_met (own := RX4) rfl rfl (Nat.le_of_ble_eq_true rfl) hj ?_
  intro p e s m below meth c C0 hr hlk Z ls hl
  have hx := C0.1
  have hb := C0.2.1
  have hl : lv_has ls 4 [(0, .ref (dw_ad Γ 11)), (1, .int a1)] := hl
  suffices key : ∀ (H : Heap) (locs : List Loc), dw_Z Γ (dw_A Γ) s.heap μ H locs → W p l e (dw_rm 1 21) s m ([.ref (dw_ad Γ 11), .int a1] : List Value).toArray below meth c H locs 0 0 (MQ below (dw_Qi Γ r μ) ([.ref (dw_ad Γ 11), .int a1] : List Value).toArray s 0 0 (dw_A Γ)) (F0 m 0 ls []) from key _ _ Z
  clear Z
  intro H locs Z
  unfold fX4_rankOf at h
  refine lv_iconst (v := (-1 : Int32)) hx hb dX4_rankOf_0 (by decide) ?_
  refine lv_istore_n (lv' := [(2, .int (-1 : Int32)), (0, .ref (dw_ad Γ 11)), (1, .int a1)]) hx hb dX4_rankOf_1 rfl hl (by decide) rfl (fun ls hl => ?_)
  refine lv_iload_n hx hb dX4_rankOf_2 rfl (lv_at hl 2 rfl) ?_
  refine lv_istore_n (lv' := [(3, .int a1), (2, .int (-1 : Int32)), (0, .ref (dw_ad Γ 11)), (1, .int a1)]) hx hb dX4_rankOf_3 rfl hl (by decide) rfl (fun ls hl => ?_)
  obtain ⟨kc4, ekc4, h⟩ := dw_bdK h
  have E4 : ∀ (x8 : Int32) (H : Heap) (locs : List Loc) (ls : Array Slot), dw_Z Γ (dw_A Γ) s.heap μ H locs → lv_has ls 4 [(2, .int x8)] → kc4 x8 = some r → W p l e (dw_rm 1 21) s m ([.ref (dw_ad Γ 11), .int a1] : List Value).toArray below meth c H locs 0 0 (MQ below (dw_Qi Γ r μ) ([.ref (dw_ad Γ 11), .int a1] : List Value).toArray s 0 0 (dw_A Γ)) (F0 m 34 ls []) := by
    intro x8 H locs ls Z hl h
    rw [ekc4] at h
    dsimp only at h
    refine lv_iload_n hx hb dX4_rankOf_34 rfl (lv_at hl 0 rfl) ?_
    obtain rfl := dw_s1 h
    exact dw_iret C0 Z hr hlk dX4_rankOf_35
  have L4 : ∀ (n4 : Nat) (x1 : Int32) (x2 : Int32) (H : Heap) (locs : List Loc) (ls : Array Slot), dw_Z Γ (dw_A Γ) s.heap μ H locs → lv_has ls 4 [(0, .ref (dw_ad Γ 11)), (2, .int x1), (3, .int x2)] → dw_bd (dw_wh (fun v => sX4_rankOf_4 μ v.1 v.2) n4 (x1, x2)) kc4 = some r → W p l e (dw_rm 1 21) s m ([.ref (dw_ad Γ 11), .int a1] : List Value).toArray below meth c H locs 0 0 (MQ below (dw_Qi Γ r μ) ([.ref (dw_ad Γ 11), .int a1] : List Value).toArray s 0 0 (dw_A Γ)) (F0 m 4 ls []) := by
    clear h
    intro n4
    induction n4 with
    | zero =>
      intro x1 x2 H locs ls Z hl h
      exact (dw_wh0 h).elim
    | succ n4 ih4 =>
      intro x1 x2 H locs ls Z hl h
      obtain ⟨q4, hs, hq4⟩ := dw_whB h
      have h : sX4_rankOf_4 μ x1 x2 = some q4 := hs
      unfold sX4_rankOf_4 at h
      refine lv_aload_n hx hb dX4_rankOf_4 rfl (lv_at hl 0 rfl) ?_
      refine lv_iload_n hx hb dX4_rankOf_5 rfl (lv_at hl 2 rfl) ?_
      refine dw_cVi C0 Z dw_hA (dw_lt dw_kc11 (by decide)) (dw_cz4 dw_kc11) rfl (As := [.int x2]) (rest := []) (kX4_hasPipe l Γ hj μ x2 rfl) (dw_gV tw_lX4_26 tw_vX4_hasPipe tw_eX4_hasPipe tw_iX4 tw_kX4_hasPipe) dw_hX4_hasPipe ⟨Nat.le_of_ble_eq_true rfl, Nat.le_of_ble_eq_true rfl⟩ ⟨Nat.zero_le _, Nat.zero_le _⟩ hl.1 (Nat.le_of_ble_eq_true rfl) rfl dX4_rankOf_6 (fun H locs Z => ?_)
      refine lv_if_eq (tgt := 34) hx hb dX4_rankOf_9 (by decide) (fun c3 => ?_) (fun c3 => ?_)
      · have h := dw_ifT c3 h
        obtain rfl := dw_s1 h
        exact E4 x1 H locs ls Z (lv_sub hl [1] rfl) hq4
      · have h := dw_ifF c3 h
        refine lv_iload_n hx hb dX4_rankOf_12 rfl (lv_at hl 1 rfl) ?_
        refine lv_bipush (v := (20 : Int32)) hx hb dX4_rankOf_13 (by decide) ?_
        refine lv_icmp_ge (tgt := 34) hx hb dX4_rankOf_15 (by decide) (fun c4 => ?_) (fun c4 => ?_)
        · have h := dw_ifT c4 h
          obtain rfl := dw_s1 h
          exact E4 x1 H locs ls Z (lv_sub hl [1] rfl) hq4
        · have h := dw_ifF c4 h
          obtain ⟨x5, ex5⟩ := dw_eg (x1 + (1 : Int32))
          have h := dw_nmS ex5 h
          refine lv_iinc (v := x5) (lv' := [(2, .int x5), (0, .ref (dw_ad Γ 11)), (3, .int x2)]) hx hb dX4_rankOf_18 hl (k := 1) rfl (by rw [ex5]; rfl) (by decide) rfl (fun ls hl => ?_)
          refine lv_aload_n hx hb dX4_rankOf_21 rfl (lv_at hl 1 rfl) ?_
          refine dw_g4_0 (t := 12) C0 Z dw_kc11 tw_fX4_11 rfl dX4_rankOf_22 ?_
          refine lv_iload_n hx hb dX4_rankOf_25 rfl (lv_at hl 2 rfl) ?_
          obtain ⟨g6, h⟩ := dw_gdS h
          refine dw_aald C0 Z dw_kc12 g6 dX4_rankOf_26 ?_
          refine dw_g5_5 C0 Z (dw_pk dw_kc12 (dw_ok_lt g6)) tw_fX4_30 dX4_rankOf_27 ?_
          refine lv_topi (fun x7 ex7 => ?_)
          have h := dw_nmS ex7 h
          refine lv_istore_n (lv' := [(3, .int x7), (2, .int x5), (0, .ref (dw_ad Γ 11))]) hx hb dX4_rankOf_30 rfl hl (by decide) rfl (fun ls hl => ?_)
          refine lv_goto (tgt := 4) hx hb dX4_rankOf_31 (by decide) ?_
          obtain rfl := dw_s1 h
          exact ih4 x5 x7 H locs ls Z (lv_sub hl [2, 1, 0] rfl) hq4
  exact L4 1000 (-1 : Int32) a1 H locs ls Z (lv_sub hl [2, 1, 0] rfl) h

def sX0_plan_2  (x1 : Int32) (μ2 : dw_M) : Option ((Int32 × dw_M) ⊕ ((dw_M))) :=
  if (36 : Int32) ≤ x1 then (
  some (.inr μ2))
  else (
  dw_b2 (fX0_planDrains μ2 x1) (fun r5 μ6 =>
  dw_gd (dw_ok x1 36) (
  dw_nm (dw_st μ6 137 x1.toNatClampNeg r5) (fun μ8 =>
  dw_nm (x1 + (1 : Int32)) (fun x9 =>
  some (.inl (x9, μ8)))))))
def sX0_plan_33  (x12 : Int32) (μ13 : dw_M) : Option ((Int32 × dw_M) ⊕ ((dw_M))) :=
  if (μ13.1 11 1) ≤ x12 then (
  some (.inr μ13))
  else (
  dw_bd (fX4_rankOf μ13 x12) (fun r16 =>
  dw_gd (dw_ok x12 20) (
  dw_nm (dw_st μ13 136 x12.toNatClampNeg r16) (fun μ18 =>
  dw_nm (dw_st μ18 135 1 (dw_mx (μ18.1 135 1) (μ18.1 136 x12.toNatClampNeg))) (fun μ19 =>
  dw_nm (x12 + (1 : Int32)) (fun x20 =>
  some (.inl (x20, μ19))))))))
def fX0_plan (μ : dw_M) : Option (dw_M) :=
  dw_bd (dw_wh (fun v => sX0_plan_2 v.1 v.2) 1000 ((0 : Int32), μ))
    (fun μ10 => dw_nm (dw_st μ10 135 1 (0 : Int32)) (fun μ11 =>
  dw_bd (dw_wh (fun v => sX0_plan_33 v.1 v.2) 1000 ((0 : Int32), μ11))
    (fun μ21 => some μ21)))
set_option maxHeartbeats 4000000 in
set_option maxRecDepth 100000 in
theorem kX0_plan (l : Launch) (Γ : dw_G) (hj : dw_inj Γ) (μ : dw_M)  {ν : dw_M} (h : fX0_plan μ = some ν) : Met l yX0_plan (dw_ws yX0_plan cX0_plan 3 none) (dw_rm 3 67) (dw_P Γ ([.ref (dw_ad Γ 135), .ref (dw_ad Γ 11)] : List Value) μ) (dw_Qv Γ ν) 0 0 (dw_A Γ) := by
  refine dw_met (own := RX0) rfl rfl (Nat.le_of_ble_eq_true rfl) hj ?_
  intro p e s m below meth c C0 hr hlk Z ls hl
  have hx := C0.1
  have hb := C0.2.1
  have hl : lv_has ls 3 [(0, .ref (dw_ad Γ 135)), (1, .ref (dw_ad Γ 11))] := hl
  suffices key : ∀ (H : Heap) (locs : List Loc), dw_Z Γ (dw_A Γ) s.heap μ H locs → W p l e (dw_rm 3 67) s m ([.ref (dw_ad Γ 135), .ref (dw_ad Γ 11)] : List Value).toArray below meth c H locs 0 0 (MQ below (dw_Qv Γ ν) ([.ref (dw_ad Γ 135), .ref (dw_ad Γ 11)] : List Value).toArray s 0 0 (dw_A Γ)) (F0 m 0 ls []) from key _ _ Z
  clear Z
  intro H locs Z
  unfold fX0_plan at h
  refine lv_iconst (v := (0 : Int32)) hx hb dX0_plan_0 (by decide) ?_
  refine lv_istore_n (lv' := [(2, .int (0 : Int32)), (0, .ref (dw_ad Γ 135)), (1, .ref (dw_ad Γ 11))]) hx hb dX0_plan_1 rfl hl (by decide) rfl (fun ls hl => ?_)
  obtain ⟨kc2, ekc2, h⟩ := dw_bdK h
  have E2 : ∀ (μ10 : dw_M) (H : Heap) (locs : List Loc) (ls : Array Slot), dw_Z Γ (dw_A Γ) s.heap μ10 H locs → lv_has ls 3 [(0, .ref (dw_ad Γ 135)), (1, .ref (dw_ad Γ 11))] → kc2 μ10 = some ν → W p l e (dw_rm 3 67) s m ([.ref (dw_ad Γ 135), .ref (dw_ad Γ 11)] : List Value).toArray below meth c H locs 0 0 (MQ below (dw_Qv Γ ν) ([.ref (dw_ad Γ 135), .ref (dw_ad Γ 11)] : List Value).toArray s 0 0 (dw_A Γ)) (F0 m 26 ls []) := by
    intro μ10 H locs ls Z hl h
    rw [ekc2] at h
    dsimp only at h
    refine lv_aload_n hx hb dX0_plan_26 rfl (lv_at hl 0 rfl) ?_
    refine lv_iconst (v := (0 : Int32)) hx hb dX0_plan_27 (by decide) ?_
    refine dw_p0_1 C0 Z dw_hA dw_kc135 tw_fX0_25 dX0_plan_28 (fun μ11 eμ11 H locs Z => ?_)
    have h := dw_nmS eμ11 h
    refine lv_iconst (v := (0 : Int32)) hx hb dX0_plan_31 (by decide) ?_
    refine lv_istore_n (lv' := [(2, .int (0 : Int32)), (0, .ref (dw_ad Γ 135)), (1, .ref (dw_ad Γ 11))]) hx hb dX0_plan_32 rfl hl (by decide) rfl (fun ls hl => ?_)
    obtain ⟨kc33, ekc33, h⟩ := dw_bdK h
    have E33 : ∀ (μ21 : dw_M) (H : Heap) (locs : List Loc) (ls : Array Slot), dw_Z Γ (dw_A Γ) s.heap μ21 H locs → lv_has ls 3 [] → kc33 μ21 = some ν → W p l e (dw_rm 3 67) s m ([.ref (dw_ad Γ 135), .ref (dw_ad Γ 11)] : List Value).toArray below meth c H locs 0 0 (MQ below (dw_Qv Γ ν) ([.ref (dw_ad Γ 135), .ref (dw_ad Γ 11)] : List Value).toArray s 0 0 (dw_A Γ)) (F0 m 75 ls []) := by
      intro μ21 H locs ls Z hl h
      rw [ekc33] at h
      dsimp only at h
      obtain rfl := dw_s1 h
      exact dw_vret C0 Z hr hlk dX0_plan_75
    have L33 : ∀ (n33 : Nat) (x12 : Int32) (μ13 : dw_M) (H : Heap) (locs : List Loc) (ls : Array Slot), dw_Z Γ (dw_A Γ) s.heap μ13 H locs → lv_has ls 3 [(0, .ref (dw_ad Γ 135)), (1, .ref (dw_ad Γ 11)), (2, .int x12)] → dw_bd (dw_wh (fun v => sX0_plan_33 v.1 v.2) n33 (x12, μ13)) kc33 = some ν → W p l e (dw_rm 3 67) s m ([.ref (dw_ad Γ 135), .ref (dw_ad Γ 11)] : List Value).toArray below meth c H locs 0 0 (MQ below (dw_Qv Γ ν) ([.ref (dw_ad Γ 135), .ref (dw_ad Γ 11)] : List Value).toArray s 0 0 (dw_A Γ)) (F0 m 33 ls []) := by
      clear h
      intro n33
      induction n33 with
      | zero =>
        intro x12 μ13 H locs ls Z hl h
        exact (dw_wh0 h).elim
      | succ n33 ih33 =>
        intro x12 μ13 H locs ls Z hl h
        obtain ⟨q33, hs, hq33⟩ := dw_whB h
        have h : sX0_plan_33 x12 μ13 = some q33 := hs
        unfold sX0_plan_33 at h
        refine lv_iload_n hx hb dX0_plan_33 rfl (lv_at hl 2 rfl) ?_
        refine lv_aload_n hx hb dX0_plan_34 rfl (lv_at hl 1 rfl) ?_
        refine dw_g4_1 C0 Z dw_kc11 tw_fX0_29 dX0_plan_35 ?_
        refine lv_icmp_ge (tgt := 75) hx hb dX0_plan_38 (by decide) (fun c14 => ?_) (fun c14 => ?_)
        · have h := dw_ifT c14 h
          obtain rfl := dw_s1 h
          exact E33  μ13 H locs ls Z (lv_sub hl [] rfl) hq33
        · have h := dw_ifF c14 h
          refine lv_aload_n hx hb dX0_plan_41 rfl (lv_at hl 0 rfl) ?_
          refine dw_g0_0 (t := 136) C0 Z dw_kc135 tw_fX0_9 rfl dX0_plan_42 ?_
          refine lv_iload_n hx hb dX0_plan_45 rfl (lv_at hl 2 rfl) ?_
          refine lv_aload_n hx hb dX0_plan_46 rfl (lv_at hl 1 rfl) ?_
          refine lv_iload_n hx hb dX0_plan_47 rfl (lv_at hl 2 rfl) ?_
          obtain ⟨r16, hc15, h⟩ := dw_bdS h
          refine dw_cVi C0 Z dw_hA (dw_lt dw_kc11 (by decide)) (dw_cz4 dw_kc11) rfl (As := [.int x12]) (rest := [.int x12, .ref (dw_ad Γ 136)]) (kX4_rankOf l Γ hj μ13 x12 hc15) (dw_gV tw_lX0_34 tw_vX4_rankOf tw_eX4_rankOf tw_iX4 tw_kX4_rankOf) dw_hX4_rankOf ⟨Nat.le_of_ble_eq_true rfl, Nat.le_of_ble_eq_true rfl⟩ ⟨Nat.zero_le _, Nat.zero_le _⟩ hl.1 (Nat.le_of_ble_eq_true rfl) rfl dX0_plan_48 (fun H locs Z => ?_)
          obtain ⟨g17, h⟩ := dw_gdS h
          refine dw_ast C0 Z dw_hA dw_kc136 dw_lc136 g17 dX0_plan_51 (fun μ18 eμ18 H locs Z => ?_)
          have h := dw_nmS eμ18 h
          refine lv_aload_n hx hb dX0_plan_52 rfl (lv_at hl 0 rfl) ?_
          refine lv_aload_n hx hb dX0_plan_53 rfl (lv_at hl 0 rfl) ?_
          refine dw_g0_1 C0 Z dw_kc135 tw_fX0_25 dX0_plan_54 ?_
          refine lv_aload_n hx hb dX0_plan_57 rfl (lv_at hl 0 rfl) ?_
          refine dw_g0_0 (t := 136) C0 Z dw_kc135 tw_fX0_9 rfl dX0_plan_58 ?_
          refine lv_iload_n hx hb dX0_plan_61 rfl (lv_at hl 2 rfl) ?_
          refine dw_ald C0 Z dw_kc136 dw_lc136 g17 dX0_plan_62 ?_
          refine dw_mmax C0 hl.1 tw_lX0_38 (Nat.le_of_ble_eq_true rfl) (Nat.le_of_ble_eq_true rfl) ⟨Nat.zero_le _, Nat.zero_le _⟩ dX0_plan_63 ?_
          refine dw_p0_1 C0 Z dw_hA dw_kc135 tw_fX0_25 dX0_plan_66 (fun μ19 eμ19 H locs Z => ?_)
          have h := dw_nmS eμ19 h
          obtain ⟨x20, ex20⟩ := dw_eg (x12 + (1 : Int32))
          have h := dw_nmS ex20 h
          refine lv_iinc (v := x20) (lv' := [(2, .int x20), (0, .ref (dw_ad Γ 135)), (1, .ref (dw_ad Γ 11))]) hx hb dX0_plan_69 hl (k := 2) rfl (by rw [ex20]; rfl) (by decide) rfl (fun ls hl => ?_)
          refine lv_goto (tgt := 33) hx hb dX0_plan_72 (by decide) ?_
          obtain rfl := dw_s1 h
          exact ih33 x20 μ19 H locs ls Z (lv_sub hl [1, 2, 0] rfl) hq33
    exact L33 1000 (0 : Int32) μ11 H locs ls Z (lv_sub hl [1, 2, 0] rfl) h
  have L2 : ∀ (n2 : Nat) (x1 : Int32) (μ2 : dw_M) (H : Heap) (locs : List Loc) (ls : Array Slot), dw_Z Γ (dw_A Γ) s.heap μ2 H locs → lv_has ls 3 [(0, .ref (dw_ad Γ 135)), (1, .ref (dw_ad Γ 11)), (2, .int x1)] → dw_bd (dw_wh (fun v => sX0_plan_2 v.1 v.2) n2 (x1, μ2)) kc2 = some ν → W p l e (dw_rm 3 67) s m ([.ref (dw_ad Γ 135), .ref (dw_ad Γ 11)] : List Value).toArray below meth c H locs 0 0 (MQ below (dw_Qv Γ ν) ([.ref (dw_ad Γ 135), .ref (dw_ad Γ 11)] : List Value).toArray s 0 0 (dw_A Γ)) (F0 m 2 ls []) := by
    clear h
    intro n2
    induction n2 with
    | zero =>
      intro x1 μ2 H locs ls Z hl h
      exact (dw_wh0 h).elim
    | succ n2 ih2 =>
      intro x1 μ2 H locs ls Z hl h
      obtain ⟨q2, hs, hq2⟩ := dw_whB h
      have h : sX0_plan_2 x1 μ2 = some q2 := hs
      unfold sX0_plan_2 at h
      refine lv_iload_n hx hb dX0_plan_2 rfl (lv_at hl 2 rfl) ?_
      refine lv_bipush (v := (36 : Int32)) hx hb dX0_plan_3 (by decide) ?_
      refine lv_icmp_ge (tgt := 26) hx hb dX0_plan_5 (by decide) (fun c3 => ?_) (fun c3 => ?_)
      · have h := dw_ifT c3 h
        obtain rfl := dw_s1 h
        exact E2  μ2 H locs ls Z (lv_sub hl [0, 1] rfl) hq2
      · have h := dw_ifF c3 h
        refine lv_aload_n hx hb dX0_plan_8 rfl (lv_at hl 0 rfl) ?_
        refine dw_g0_2 (t := 137) C0 Z dw_kc135 tw_fX0_15 rfl dX0_plan_9 ?_
        refine lv_iload_n hx hb dX0_plan_12 rfl (lv_at hl 2 rfl) ?_
        refine lv_aload_n hx hb dX0_plan_13 rfl (lv_at hl 0 rfl) ?_
        refine lv_aload_n hx hb dX0_plan_14 rfl (lv_at hl 1 rfl) ?_
        refine lv_iload_n hx hb dX0_plan_15 rfl (lv_at hl 2 rfl) ?_
        obtain ⟨r5, μ6, hc4, h⟩ := dw_b2S h
        refine dw_cVi C0 Z dw_hA (dw_lt dw_kc135 (by decide)) (dw_cz0 dw_kc135) rfl (As := [.ref (dw_ad Γ 11), .int x1]) (rest := [.int x1, .ref (dw_ad Γ 137)]) (kX0_planDrains l Γ hj μ2 x1 hc4) (dw_gV tw_lX0_21 tw_vX0_planDrains tw_eX0_planDrains tw_iX0 tw_kX0_planDrains) dw_hX0_planDrains ⟨Nat.le_of_ble_eq_true rfl, Nat.le_of_ble_eq_true rfl⟩ ⟨Nat.zero_le _, Nat.zero_le _⟩ hl.1 (Nat.le_of_ble_eq_true rfl) rfl dX0_plan_16 (fun H locs Z => ?_)
        obtain ⟨g7, h⟩ := dw_gdS h
        refine dw_ast C0 Z dw_hA dw_kc137 dw_lc137 g7 dX0_plan_19 (fun μ8 eμ8 H locs Z => ?_)
        have h := dw_nmS eμ8 h
        obtain ⟨x9, ex9⟩ := dw_eg (x1 + (1 : Int32))
        have h := dw_nmS ex9 h
        refine lv_iinc (v := x9) (lv' := [(2, .int x9), (0, .ref (dw_ad Γ 135)), (1, .ref (dw_ad Γ 11))]) hx hb dX0_plan_20 hl (k := 2) rfl (by rw [ex9]; rfl) (by decide) rfl (fun ls hl => ?_)
        refine lv_goto (tgt := 2) hx hb dX0_plan_23 (by decide) ?_
        obtain rfl := dw_s1 h
        exact ih2 x9 μ8 H locs ls Z (lv_sub hl [1, 2, 0] rfl) hq2
  exact L2 1000 (0 : Int32) μ H locs ls Z (lv_sub hl [1, 2, 0] rfl) h

def fX9_numberAt (μ : dw_M) (i : Nat) (a1 : Int32) : Option (Int32) :=
  if a1 < 0 then (
  some (0 : Int32))
  else (
  if (nI (dw_ln i)) ≤ a1 then (
  some (0 : Int32))
  else (
  dw_gd (dw_ok a1 (dw_ln i)) (
  some (μ.1 i a1.toNatClampNeg))))
set_option maxHeartbeats 4000000 in
set_option maxRecDepth 100000 in
theorem kX9_numberAt (l : Launch) (Γ : dw_G) (hj : dw_inj Γ) (μ : dw_M) (i : Nat) (hk_i : dw_kd i = 11) (a1 : Int32) {r : Int32} (h : fX9_numberAt μ i a1 = some r) : Met l yX9_numberAt (dw_ws yX9_numberAt cX9_numberAt 2 (some .int)) (dw_rm 0 0) (dw_P Γ ([.ref (dw_ad Γ i), .int a1] : List Value) μ) (dw_Qi Γ r μ) 0 0 (dw_A Γ) := by
  refine dw_met (own := RX9) rfl rfl (Nat.le_of_ble_eq_true rfl) hj ?_
  intro p e s m below meth c C0 hr hlk Z ls hl
  have hx := C0.1
  have hb := C0.2.1
  have hl : lv_has ls 2 [(0, .ref (dw_ad Γ i)), (1, .int a1)] := hl
  suffices key : ∀ (H : Heap) (locs : List Loc), dw_Z Γ (dw_A Γ) s.heap μ H locs → W p l e (dw_rm 0 0) s m ([.ref (dw_ad Γ i), .int a1] : List Value).toArray below meth c H locs 0 0 (MQ below (dw_Qi Γ r μ) ([.ref (dw_ad Γ i), .int a1] : List Value).toArray s 0 0 (dw_A Γ)) (F0 m 0 ls []) from key _ _ Z
  clear Z
  intro H locs Z
  unfold fX9_numberAt at h
  refine lv_iload_n hx hb dX9_numberAt_0 rfl (lv_at hl 1 rfl) ?_
  refine lv_if_lt (tgt := 16) hx hb dX9_numberAt_1 (by decide) (fun c1 => ?_) (fun c1 => ?_)
  · have h := dw_ifT c1 h
    refine lv_iconst (v := (0 : Int32)) hx hb dX9_numberAt_16 (by decide) ?_
    obtain rfl := dw_s1 h
    exact dw_iret C0 Z hr hlk dX9_numberAt_17
  · have h := dw_ifF c1 h
    refine lv_iload_n hx hb dX9_numberAt_4 rfl (lv_at hl 1 rfl) ?_
    refine lv_aload_n hx hb dX9_numberAt_5 rfl (lv_at hl 0 rfl) ?_
    refine dw_alen C0 Z hk_i dX9_numberAt_6 ?_
    refine lv_icmp_ge (tgt := 16) hx hb dX9_numberAt_7 (by decide) (fun c2 => ?_) (fun c2 => ?_)
    · have h := dw_ifT c2 h
      refine lv_iconst (v := (0 : Int32)) hx hb dX9_numberAt_16 (by decide) ?_
      obtain rfl := dw_s1 h
      exact dw_iret C0 Z hr hlk dX9_numberAt_17
    · have h := dw_ifF c2 h
      refine lv_aload_n hx hb dX9_numberAt_10 rfl (lv_at hl 0 rfl) ?_
      refine lv_iload_n hx hb dX9_numberAt_11 rfl (lv_at hl 1 rfl) ?_
      obtain ⟨g3, h⟩ := dw_gdS h
      refine dw_ald C0 Z hk_i rfl g3 dX9_numberAt_12 ?_
      refine lv_goto (tgt := 17) hx hb dX9_numberAt_13 (by decide) ?_
      obtain rfl := dw_s1 h
      exact dw_iret C0 Z hr hlk dX9_numberAt_17

def fX0_wetPlace (μ : dw_M) (i : Nat) (a1 : Int32) : Option (dw_M) :=
  dw_gd (dw_ok a1 36) (
  dw_nm (μ.1 4 a1.toNatClampNeg) (fun x2 =>
  dw_nm (dw_st μ i 7 ((μ.1 i 7) + (μ.1 61 a1.toNatClampNeg))) (fun μ3 =>
  dw_nm (dw_st μ3 (i + 1) a1.toNatClampNeg ((μ3.1 (i + 1) a1.toNatClampNeg) + (μ3.1 61 a1.toNatClampNeg))) (fun μ4 =>
  dw_bd (fX9_numberAt μ4 7 x2) (fun r6 =>
  dw_nm (dw_mx (0 : Int32) (r6 - (μ4.1 (i + 2) a1.toNatClampNeg))) (fun x7 =>
  dw_bd (fX9_numberAt μ4 5 x2) (fun r9 =>
  dw_nm (dw_mn x7 r9) (fun x10 =>
  dw_nm (dw_mn x10 (μ4.1 (i + 1) a1.toNatClampNeg)) (fun x11 =>
  dw_nm (dw_st μ4 (i + 1) a1.toNatClampNeg ((μ4.1 (i + 1) a1.toNatClampNeg) - x11)) (fun μ12 =>
  dw_nm (dw_st μ12 (i + 2) a1.toNatClampNeg ((μ12.1 (i + 2) a1.toNatClampNeg) + x11)) (fun μ13 =>
  some μ13)))))))))))
set_option maxHeartbeats 4000000 in
set_option maxRecDepth 100000 in
theorem kX0_wetPlace (l : Launch) (Γ : dw_G) (hj : dw_inj Γ) (μ : dw_M) (i : Nat) (hk_i : dw_kd i = 8) (a1 : Int32) {ν : dw_M} (h : fX0_wetPlace μ i a1 = some ν) : Met l yX0_wetPlace (dw_ws yX0_wetPlace cX0_wetPlace 8 none) (dw_rm 1 24) (dw_P Γ ([.ref (dw_ad Γ 135), .ref (dw_ad Γ 1), .ref (dw_ad Γ i), .int a1] : List Value) μ) (dw_Qv Γ ν) 0 0 (dw_A Γ) := by
  refine dw_met (own := RX0) rfl rfl (Nat.le_of_ble_eq_true rfl) hj ?_
  intro p e s m below meth c C0 hr hlk Z ls hl
  have hx := C0.1
  have hb := C0.2.1
  have hl : lv_has ls 8 [(0, .ref (dw_ad Γ 135)), (1, .ref (dw_ad Γ 1)), (2, .ref (dw_ad Γ i)), (3, .int a1)] := hl
  suffices key : ∀ (H : Heap) (locs : List Loc), dw_Z Γ (dw_A Γ) s.heap μ H locs → W p l e (dw_rm 1 24) s m ([.ref (dw_ad Γ 135), .ref (dw_ad Γ 1), .ref (dw_ad Γ i), .int a1] : List Value).toArray below meth c H locs 0 0 (MQ below (dw_Qv Γ ν) ([.ref (dw_ad Γ 135), .ref (dw_ad Γ 1), .ref (dw_ad Γ i), .int a1] : List Value).toArray s 0 0 (dw_A Γ)) (F0 m 0 ls []) from key _ _ Z
  clear Z
  intro H locs Z
  unfold fX0_wetPlace at h
  refine lv_aload_n hx hb dX0_wetPlace_0 rfl (lv_at hl 1 rfl) ?_
  refine dw_g6_0 (t := 2) C0 Z dw_kc1 tw_fX0_63 rfl dX0_wetPlace_1 ?_
  refine dw_g1_3 (t := 4) C0 Z dw_kc2 tw_fX0_96 rfl dX0_wetPlace_4 ?_
  refine lv_iload_n hx hb dX0_wetPlace_7 rfl (lv_at hl 3 rfl) ?_
  obtain ⟨g1, h⟩ := dw_gdS h
  refine dw_ald C0 Z dw_kc4 dw_lc4 g1 dX0_wetPlace_8 ?_
  refine lv_topi (fun x2 ex2 => ?_)
  have h := dw_nmS ex2 h
  refine lv_istore (lv' := [(4, .int x2), (0, .ref (dw_ad Γ 135)), (1, .ref (dw_ad Γ 1)), (2, .ref (dw_ad Γ i)), (3, .int a1)]) hx hb dX0_wetPlace_9 hl (by decide) rfl (fun ls hl => ?_)
  refine lv_aload_n hx hb dX0_wetPlace_11 rfl (lv_at hl 3 rfl) ?_
  refine lv_dup hx hb dX0_wetPlace_12 rfl ?_
  refine dw_g8_7 C0 Z hk_i tw_fX0_99 dX0_wetPlace_13 ?_
  refine lv_aload_n hx hb dX0_wetPlace_16 rfl (lv_at hl 2 rfl) ?_
  refine dw_g6_4 (t := 61) C0 Z dw_kc1 tw_fX0_102 rfl dX0_wetPlace_17 ?_
  refine lv_iload_n hx hb dX0_wetPlace_20 rfl (lv_at hl 4 rfl) ?_
  refine dw_ald C0 Z dw_kc61 dw_lc61 g1 dX0_wetPlace_21 ?_
  refine lv_iadd hx hb dX0_wetPlace_22 ?_
  refine dw_p8_7 C0 Z dw_hA hk_i tw_fX0_99 dX0_wetPlace_23 (fun μ3 eμ3 H locs Z => ?_)
  have h := dw_nmS eμ3 h
  refine lv_aload_n hx hb dX0_wetPlace_26 rfl (lv_at hl 3 rfl) ?_
  refine dw_g8_0 (t := (i + 1)) C0 Z hk_i tw_fX0_105 rfl dX0_wetPlace_27 ?_
  refine lv_iload_n hx hb dX0_wetPlace_30 rfl (lv_at hl 4 rfl) ?_
  refine lv_dup2_11 hx hb dX0_wetPlace_31 rfl rfl ?_
  refine dw_ald C0 Z (dw_r8_0 hk_i) (dw_n8_0 hk_i) g1 dX0_wetPlace_32 ?_
  refine lv_aload_n hx hb dX0_wetPlace_33 rfl (lv_at hl 2 rfl) ?_
  refine dw_g6_4 (t := 61) C0 Z dw_kc1 tw_fX0_102 rfl dX0_wetPlace_34 ?_
  refine lv_iload_n hx hb dX0_wetPlace_37 rfl (lv_at hl 4 rfl) ?_
  refine dw_ald C0 Z dw_kc61 dw_lc61 g1 dX0_wetPlace_38 ?_
  refine lv_iadd hx hb dX0_wetPlace_39 ?_
  refine dw_ast C0 Z dw_hA (dw_r8_0 hk_i) (dw_n8_0 hk_i) g1 dX0_wetPlace_40 (fun μ4 eμ4 H locs Z => ?_)
  have h := dw_nmS eμ4 h
  refine lv_iconst (v := (0 : Int32)) hx hb dX0_wetPlace_41 (by decide) ?_
  refine lv_aload_n hx hb dX0_wetPlace_42 rfl (lv_at hl 2 rfl) ?_
  refine dw_g6_0 (t := 2) C0 Z dw_kc1 tw_fX0_63 rfl dX0_wetPlace_43 ?_
  refine dw_g1_6 (t := 7) C0 Z dw_kc2 tw_fX0_108 rfl dX0_wetPlace_46 ?_
  refine lv_iload hx hb dX0_wetPlace_49 (lv_at hl 0 rfl) ?_
  obtain ⟨r6, hc5, h⟩ := dw_bdS h
  refine dw_cNi (host := RX9) C0 Z dw_hA (As := [.ref (dw_ad Γ 7), .int x2]) (rest := [.int (0 : Int32)]) (kX9_numberAt l Γ hj μ4 7 dw_kc7 x2 hc5) (by decide +kernel) tw_kX9_numberAt tw_iX9 tw_sX9_numberAt dw_hX9_numberAt ⟨Nat.le_of_ble_eq_true rfl, Nat.le_of_ble_eq_true rfl⟩ ⟨Nat.zero_le _, Nat.zero_le _⟩ hl.1 (Nat.le_of_ble_eq_true rfl) rfl dX0_wetPlace_51 (fun H locs Z => ?_)
  refine lv_aload_n hx hb dX0_wetPlace_54 rfl (lv_at hl 3 rfl) ?_
  refine dw_g8_1 (t := (i + 2)) C0 Z hk_i tw_fX0_115 rfl dX0_wetPlace_55 ?_
  refine lv_iload_n hx hb dX0_wetPlace_58 rfl (lv_at hl 4 rfl) ?_
  refine dw_ald C0 Z (dw_r8_1 hk_i) (dw_n8_1 hk_i) g1 dX0_wetPlace_59 ?_
  refine lv_isub hx hb dX0_wetPlace_60 ?_
  refine dw_mmax C0 hl.1 tw_lX0_38 (Nat.le_of_ble_eq_true rfl) (Nat.le_of_ble_eq_true rfl) ⟨Nat.zero_le _, Nat.zero_le _⟩ dX0_wetPlace_61 ?_
  refine lv_topi (fun x7 ex7 => ?_)
  have h := dw_nmS ex7 h
  refine lv_istore (lv' := [(5, .int x7), (4, .int x2), (0, .ref (dw_ad Γ 135)), (1, .ref (dw_ad Γ 1)), (2, .ref (dw_ad Γ i)), (3, .int a1)]) hx hb dX0_wetPlace_64 hl (by decide) rfl (fun ls hl => ?_)
  refine lv_iload hx hb dX0_wetPlace_66 (lv_at hl 0 rfl) ?_
  refine lv_aload_n hx hb dX0_wetPlace_68 rfl (lv_at hl 3 rfl) ?_
  refine dw_g6_0 (t := 2) C0 Z dw_kc1 tw_fX0_63 rfl dX0_wetPlace_69 ?_
  refine dw_g1_4 (t := 5) C0 Z dw_kc2 tw_fX0_118 rfl dX0_wetPlace_72 ?_
  refine lv_iload hx hb dX0_wetPlace_75 (lv_at hl 1 rfl) ?_
  obtain ⟨r9, hc8, h⟩ := dw_bdS h
  refine dw_cNi (host := RX9) C0 Z dw_hA (As := [.ref (dw_ad Γ 5), .int x2]) (rest := [.int x7]) (kX9_numberAt l Γ hj μ4 5 dw_kc5 x2 hc8) (by decide +kernel) tw_kX9_numberAt tw_iX9 tw_sX9_numberAt dw_hX9_numberAt ⟨Nat.le_of_ble_eq_true rfl, Nat.le_of_ble_eq_true rfl⟩ ⟨Nat.zero_le _, Nat.zero_le _⟩ hl.1 (Nat.le_of_ble_eq_true rfl) rfl dX0_wetPlace_77 (fun H locs Z => ?_)
  refine dw_mmin C0 hl.1 tw_lX0_121 (Nat.le_of_ble_eq_true rfl) (Nat.le_of_ble_eq_true rfl) ⟨Nat.zero_le _, Nat.zero_le _⟩ dX0_wetPlace_80 ?_
  refine lv_topi (fun x10 ex10 => ?_)
  have h := dw_nmS ex10 h
  refine lv_istore (lv' := [(6, .int x10), (5, .int x7), (4, .int x2), (0, .ref (dw_ad Γ 135)), (1, .ref (dw_ad Γ 1)), (2, .ref (dw_ad Γ i)), (3, .int a1)]) hx hb dX0_wetPlace_83 hl (by decide) rfl (fun ls hl => ?_)
  refine lv_iload hx hb dX0_wetPlace_85 (lv_at hl 0 rfl) ?_
  refine lv_aload_n hx hb dX0_wetPlace_87 rfl (lv_at hl 5 rfl) ?_
  refine dw_g8_0 (t := (i + 1)) C0 Z hk_i tw_fX0_105 rfl dX0_wetPlace_88 ?_
  refine lv_iload_n hx hb dX0_wetPlace_91 rfl (lv_at hl 6 rfl) ?_
  refine dw_ald C0 Z (dw_r8_0 hk_i) (dw_n8_0 hk_i) g1 dX0_wetPlace_92 ?_
  refine dw_mmin C0 hl.1 tw_lX0_121 (Nat.le_of_ble_eq_true rfl) (Nat.le_of_ble_eq_true rfl) ⟨Nat.zero_le _, Nat.zero_le _⟩ dX0_wetPlace_93 ?_
  refine lv_topi (fun x11 ex11 => ?_)
  have h := dw_nmS ex11 h
  refine lv_istore (lv' := [(7, .int x11), (6, .int x10), (5, .int x7), (4, .int x2), (0, .ref (dw_ad Γ 135)), (1, .ref (dw_ad Γ 1)), (2, .ref (dw_ad Γ i)), (3, .int a1)]) hx hb dX0_wetPlace_96 hl (by decide) rfl (fun ls hl => ?_)
  refine lv_aload_n hx hb dX0_wetPlace_98 rfl (lv_at hl 6 rfl) ?_
  refine dw_g8_0 (t := (i + 1)) C0 Z hk_i tw_fX0_105 rfl dX0_wetPlace_99 ?_
  refine lv_iload_n hx hb dX0_wetPlace_102 rfl (lv_at hl 7 rfl) ?_
  refine lv_dup2_11 hx hb dX0_wetPlace_103 rfl rfl ?_
  refine dw_ald C0 Z (dw_r8_0 hk_i) (dw_n8_0 hk_i) g1 dX0_wetPlace_104 ?_
  refine lv_iload hx hb dX0_wetPlace_105 (lv_at hl 0 rfl) ?_
  refine lv_isub hx hb dX0_wetPlace_107 ?_
  refine dw_ast C0 Z dw_hA (dw_r8_0 hk_i) (dw_n8_0 hk_i) g1 dX0_wetPlace_108 (fun μ12 eμ12 H locs Z => ?_)
  have h := dw_nmS eμ12 h
  refine lv_aload_n hx hb dX0_wetPlace_109 rfl (lv_at hl 6 rfl) ?_
  refine dw_g8_1 (t := (i + 2)) C0 Z hk_i tw_fX0_115 rfl dX0_wetPlace_110 ?_
  refine lv_iload_n hx hb dX0_wetPlace_113 rfl (lv_at hl 7 rfl) ?_
  refine lv_dup2_11 hx hb dX0_wetPlace_114 rfl rfl ?_
  refine dw_ald C0 Z (dw_r8_1 hk_i) (dw_n8_1 hk_i) g1 dX0_wetPlace_115 ?_
  refine lv_iload hx hb dX0_wetPlace_116 (lv_at hl 0 rfl) ?_
  refine lv_iadd hx hb dX0_wetPlace_118 ?_
  refine dw_ast C0 Z dw_hA (dw_r8_1 hk_i) (dw_n8_1 hk_i) g1 dX0_wetPlace_119 (fun μ13 eμ13 H locs Z => ?_)
  have h := dw_nmS eμ13 h
  obtain rfl := dw_s1 h
  exact dw_vret C0 Z hr hlk dX0_wetPlace_120

def fX2_has (μ : dw_M) (i : Nat) (a1 : Int32) : Int32 :=
  if (lg_cmp ((dw_us (μ.2 i) a1) &&& (1 : Int64)) (0 : Int64)) = 0 then (
   (0 : Int32))
  else (
   (1 : Int32))
set_option maxHeartbeats 4000000 in
set_option maxRecDepth 100000 in
theorem kX2_has (l : Launch) (Γ : dw_G) (hj : dw_inj Γ) (μ : dw_M) (i : Nat) (hk_i : dw_kd i = 2) (a1 : Int32) {r : Int32} (h : fX2_has μ i a1 = r) : Met l yX2_has (dw_ws yX2_has cX2_has 2 (some .boolean)) (dw_rm 0 0) (dw_P Γ ([.ref (dw_ad Γ i), .int a1] : List Value) μ) (dw_Qi Γ r μ) 0 0 (dw_A Γ) := by
  refine dw_met (own := RX2) rfl rfl (Nat.le_of_ble_eq_true rfl) hj ?_
  intro p e s m below meth c C0 hr hlk Z ls hl
  have hx := C0.1
  have hb := C0.2.1
  have hl : lv_has ls 2 [(0, .ref (dw_ad Γ i)), (1, .int a1)] := hl
  suffices key : ∀ (H : Heap) (locs : List Loc), dw_Z Γ (dw_A Γ) s.heap μ H locs → W p l e (dw_rm 0 0) s m ([.ref (dw_ad Γ i), .int a1] : List Value).toArray below meth c H locs 0 0 (MQ below (dw_Qi Γ r μ) ([.ref (dw_ad Γ i), .int a1] : List Value).toArray s 0 0 (dw_A Γ)) (F0 m 0 ls []) from key _ _ Z
  clear Z
  intro H locs Z
  unfold fX2_has at h
  refine lv_aload_n hx hb dX2_has_0 rfl (lv_at hl 0 rfl) ?_
  refine dw_g2_0 C0 Z hk_i tw_fX2_7 dX2_has_1 ?_
  refine lv_iload_n hx hb dX2_has_4 rfl (lv_at hl 1 rfl) ?_
  refine lv_lushr (v := (dw_us (μ.2 i) a1)) hx hb dX2_has_5 rfl ?_
  refine lv_lconst (v := (1 : Int64)) hx hb dX2_has_6 (by decide) ?_
  refine lv_land hx hb dX2_has_7 ?_
  refine lv_lconst (v := (0 : Int64)) hx hb dX2_has_8 (by decide) ?_
  refine W.lcmp hx hb dX2_has_9 ?_
  refine lv_if_eq (tgt := 17) hx hb dX2_has_10 (by decide) (fun c1 => ?_) (fun c1 => ?_)
  · have h := dw_ifT c1 h
    refine lv_iconst (v := (0 : Int32)) hx hb dX2_has_17 (by decide) ?_
    obtain rfl := dw_t1 h
    exact dw_zret C0 Z hr hlk rfl dX2_has_18
  · have h := dw_ifF c1 h
    refine lv_iconst (v := (1 : Int32)) hx hb dX2_has_13 (by decide) ?_
    refine lv_goto (tgt := 18) hx hb dX2_has_14 (by decide) ?_
    obtain rfl := dw_t1 h
    exact dw_zret C0 Z hr hlk rfl dX2_has_18
theorem zX2_has (μ : dw_M) (i : Nat) (a1 : Int32) : narrow .boolean (.int (fX2_has μ i a1)) = .int (fX2_has μ i a1) := by
  unfold fX2_has
  repeat' split
  all_goals first | rfl

def fX0_isDraining (μ : dw_M) (i : Nat) (a1 : Int32) : Option (Int32) :=
  if (fX4_hasPipe μ a1) = 0 then (
  some (0 : Int32))
  else (
  if (fX2_has μ (i + 7) a1) = 0 then (
  dw_gd (dw_ok a1 20) (
  if (μ.1 (12 + 1 + 2 * a1.toNatClampNeg) 1) = (2 : Int32) then (
  if (μ.1 (i + 4) a1.toNatClampNeg) ≤ 0 then (
  some (0 : Int32))
  else (
  some (1 : Int32)))
  else (
  some (1 : Int32))))
  else (
  some (0 : Int32)))
set_option maxHeartbeats 4000000 in
set_option maxRecDepth 100000 in
theorem kX0_isDraining (l : Launch) (Γ : dw_G) (hj : dw_inj Γ) (μ : dw_M) (i : Nat) (hk_i : dw_kd i = 8) (a1 : Int32) {r : Int32} (h : fX0_isDraining μ i a1 = some r) : Met l yX0_isDraining (dw_ws yX0_isDraining cX0_isDraining 4 (some .boolean)) (dw_rm 1 21) (dw_P Γ ([.ref (dw_ad Γ 135), .ref (dw_ad Γ 11), .ref (dw_ad Γ i), .int a1] : List Value) μ) (dw_Qi Γ r μ) 0 0 (dw_A Γ) := by
  refine dw_met (own := RX0) rfl rfl (Nat.le_of_ble_eq_true rfl) hj ?_
  intro p e s m below meth c C0 hr hlk Z ls hl
  have hx := C0.1
  have hb := C0.2.1
  have hl : lv_has ls 4 [(0, .ref (dw_ad Γ 135)), (1, .ref (dw_ad Γ 11)), (2, .ref (dw_ad Γ i)), (3, .int a1)] := hl
  suffices key : ∀ (H : Heap) (locs : List Loc), dw_Z Γ (dw_A Γ) s.heap μ H locs → W p l e (dw_rm 1 21) s m ([.ref (dw_ad Γ 135), .ref (dw_ad Γ 11), .ref (dw_ad Γ i), .int a1] : List Value).toArray below meth c H locs 0 0 (MQ below (dw_Qi Γ r μ) ([.ref (dw_ad Γ 135), .ref (dw_ad Γ 11), .ref (dw_ad Γ i), .int a1] : List Value).toArray s 0 0 (dw_A Γ)) (F0 m 0 ls []) from key _ _ Z
  clear Z
  intro H locs Z
  unfold fX0_isDraining at h
  refine lv_aload_n hx hb dX0_isDraining_0 rfl (lv_at hl 1 rfl) ?_
  refine lv_iload_n hx hb dX0_isDraining_1 rfl (lv_at hl 3 rfl) ?_
  refine dw_cVi C0 Z dw_hA (dw_lt dw_kc11 (by decide)) (dw_cz4 dw_kc11) rfl (As := [.int a1]) (rest := []) (kX4_hasPipe l Γ hj μ a1 rfl) (dw_gV tw_lX0_137 tw_vX4_hasPipe tw_eX4_hasPipe tw_iX4 tw_kX4_hasPipe) dw_hX4_hasPipe ⟨Nat.le_of_ble_eq_true rfl, Nat.le_of_ble_eq_true rfl⟩ ⟨Nat.zero_le _, Nat.zero_le _⟩ hl.1 (Nat.le_of_ble_eq_true rfl) rfl dX0_isDraining_2 (fun H locs Z => ?_)
  refine lv_if_eq (tgt := 45) hx hb dX0_isDraining_5 (by decide) (fun c1 => ?_) (fun c1 => ?_)
  · have h := dw_ifT c1 h
    refine lv_iconst (v := (0 : Int32)) hx hb dX0_isDraining_45 (by decide) ?_
    obtain rfl := dw_s1 h
    exact dw_zret C0 Z hr hlk rfl dX0_isDraining_46
  · have h := dw_ifF c1 h
    refine lv_aload_n hx hb dX0_isDraining_8 rfl (lv_at hl 2 rfl) ?_
    refine dw_g8_6 (t := (i + 7)) C0 Z hk_i tw_fX0_141 rfl dX0_isDraining_9 ?_
    refine lv_iload_n hx hb dX0_isDraining_12 rfl (lv_at hl 3 rfl) ?_
    refine dw_cVi C0 Z dw_hA (dw_lt (dw_r8_6 hk_i) (by decide)) (dw_cz2 (dw_r8_6 hk_i)) rfl (As := [.int a1]) (rest := []) (kX2_has l Γ hj μ (i + 7) (dw_r8_6 hk_i) a1 rfl) (dw_gV tw_lX0_145 tw_vX2_has tw_eX2_has tw_iX2 tw_kX2_has) dw_hX2_has ⟨Nat.le_of_ble_eq_true rfl, Nat.le_of_ble_eq_true rfl⟩ ⟨Nat.zero_le _, Nat.zero_le _⟩ hl.1 (Nat.le_of_ble_eq_true rfl) rfl dX0_isDraining_13 (fun H locs Z => ?_)
    refine lv_if_ne (tgt := 45) hx hb dX0_isDraining_16 (by decide) (fun c2 => ?_) (fun c2 => ?_)
    · have h := dw_ifF c2 h
      refine lv_iconst (v := (0 : Int32)) hx hb dX0_isDraining_45 (by decide) ?_
      obtain rfl := dw_s1 h
      exact dw_zret C0 Z hr hlk rfl dX0_isDraining_46
    · have h := dw_ifT c2 h
      refine lv_aload_n hx hb dX0_isDraining_19 rfl (lv_at hl 1 rfl) ?_
      refine dw_g4_0 (t := 12) C0 Z dw_kc11 tw_fX0_44 rfl dX0_isDraining_20 ?_
      refine lv_iload_n hx hb dX0_isDraining_23 rfl (lv_at hl 3 rfl) ?_
      obtain ⟨g3, h⟩ := dw_gdS h
      refine dw_aald C0 Z dw_kc12 g3 dX0_isDraining_24 ?_
      refine dw_g5_1 C0 Z (dw_pk dw_kc12 (dw_ok_lt g3)) tw_fX0_150 dX0_isDraining_25 ?_
      refine lv_iconst (v := (2 : Int32)) hx hb dX0_isDraining_28 (by decide) ?_
      refine lv_icmp_ne (tgt := 41) hx hb dX0_isDraining_29 (by decide) (fun c4 => ?_) (fun c4 => ?_)
      · have h := dw_ifF c4 h
        refine lv_iconst (v := (1 : Int32)) hx hb dX0_isDraining_41 (by decide) ?_
        refine lv_goto (tgt := 46) hx hb dX0_isDraining_42 (by decide) ?_
        obtain rfl := dw_s1 h
        exact dw_zret C0 Z hr hlk rfl dX0_isDraining_46
      · have h := dw_ifT c4 h
        refine lv_aload_n hx hb dX0_isDraining_32 rfl (lv_at hl 2 rfl) ?_
        refine dw_g8_3 (t := (i + 4)) C0 Z hk_i tw_fX0_88 rfl dX0_isDraining_33 ?_
        refine lv_iload_n hx hb dX0_isDraining_36 rfl (lv_at hl 3 rfl) ?_
        refine dw_ald C0 Z (dw_r8_3 hk_i) (dw_n8_3 hk_i) g3 dX0_isDraining_37 ?_
        refine lv_if_le (tgt := 45) hx hb dX0_isDraining_38 (by decide) (fun c5 => ?_) (fun c5 => ?_)
        · have h := dw_ifT c5 h
          refine lv_iconst (v := (0 : Int32)) hx hb dX0_isDraining_45 (by decide) ?_
          obtain rfl := dw_s1 h
          exact dw_zret C0 Z hr hlk rfl dX0_isDraining_46
        · have h := dw_ifF c5 h
          refine lv_iconst (v := (1 : Int32)) hx hb dX0_isDraining_41 (by decide) ?_
          refine lv_goto (tgt := 46) hx hb dX0_isDraining_42 (by decide) ?_
          obtain rfl := dw_s1 h
          exact dw_zret C0 Z hr hlk rfl dX0_isDraining_46

def sX0_drainPlace_24 (i : Nat) (a1 : Int32) (r3 : Int32) (x4 : Int32) (μ5 : dw_M) : Option ((Int32 × dw_M) ⊕ ((dw_M))) :=
  if (μ5.1 137 a1.toNatClampNeg) ≤ x4 then (
  some (.inr μ5))
  else (
  dw_bd (fX9_numberAt μ5 138 ((a1 * (20 : Int32)) + x4)) (fun r8 =>
  dw_bd (fX0_isDraining μ5 i r8) (fun r10 =>
  if r10 = 0 then (
  dw_nm (x4 + (1 : Int32)) (fun x12 =>
  some (.inl (x12, μ5))))
  else (
  dw_gd (dw_ok r8 20) (
  dw_nm ((μ5.1 (12 + 1 + 2 * r8.toNatClampNeg) 4) - (μ5.1 (i + 3) r8.toNatClampNeg)) (fun x14 =>
  dw_nm (dw_mn x14 (((μ5.1 (i + 2) a1.toNatClampNeg) * r3) / (100 : Int32))) (fun x15 =>
  dw_nm (dw_st μ5 (i + 2) a1.toNatClampNeg ((μ5.1 (i + 2) a1.toNatClampNeg) - x15)) (fun μ16 =>
  dw_nm (dw_st μ16 (i + 3) r8.toNatClampNeg ((μ16.1 (i + 3) r8.toNatClampNeg) + x15)) (fun μ17 =>
  dw_nm (x4 + (1 : Int32)) (fun x18 =>
  some (.inl (x18, μ17))))))))))))
def fX0_drainPlace (μ : dw_M) (i : Nat) (a1 : Int32) : Option (dw_M) :=
  dw_gd (dw_ok a1 36) (
  dw_bd (fX9_numberAt μ 6 (μ.1 4 a1.toNatClampNeg)) (fun r3 =>
  dw_bd (dw_wh (fun v => sX0_drainPlace_24 i a1 r3 v.1 v.2) 1000 ((0 : Int32), μ))
    (fun μ19 => some μ19)))
set_option maxHeartbeats 4000000 in
set_option maxRecDepth 100000 in
theorem kX0_drainPlace (l : Launch) (Γ : dw_G) (hj : dw_inj Γ) (μ : dw_M) (i : Nat) (hk_i : dw_kd i = 8) (a1 : Int32) {ν : dw_M} (h : fX0_drainPlace μ i a1 = some ν) : Met l yX0_drainPlace (dw_ws yX0_drainPlace cX0_drainPlace 9 none) (dw_rm 2 44) (dw_P Γ ([.ref (dw_ad Γ 135), .ref (dw_ad Γ 1), .ref (dw_ad Γ i), .int a1] : List Value) μ) (dw_Qv Γ ν) 0 0 (dw_A Γ) := by
  refine dw_met (own := RX0) rfl rfl (Nat.le_of_ble_eq_true rfl) hj ?_
  intro p e s m below meth c C0 hr hlk Z ls hl
  have hx := C0.1
  have hb := C0.2.1
  have hl : lv_has ls 9 [(0, .ref (dw_ad Γ 135)), (1, .ref (dw_ad Γ 1)), (2, .ref (dw_ad Γ i)), (3, .int a1)] := hl
  suffices key : ∀ (H : Heap) (locs : List Loc), dw_Z Γ (dw_A Γ) s.heap μ H locs → W p l e (dw_rm 2 44) s m ([.ref (dw_ad Γ 135), .ref (dw_ad Γ 1), .ref (dw_ad Γ i), .int a1] : List Value).toArray below meth c H locs 0 0 (MQ below (dw_Qv Γ ν) ([.ref (dw_ad Γ 135), .ref (dw_ad Γ 1), .ref (dw_ad Γ i), .int a1] : List Value).toArray s 0 0 (dw_A Γ)) (F0 m 0 ls []) from key _ _ Z
  clear Z
  intro H locs Z
  unfold fX0_drainPlace at h
  refine lv_aload_n hx hb dX0_drainPlace_0 rfl (lv_at hl 1 rfl) ?_
  refine dw_g6_0 (t := 2) C0 Z dw_kc1 tw_fX0_63 rfl dX0_drainPlace_1 ?_
  refine dw_g1_5 (t := 6) C0 Z dw_kc2 tw_fX0_124 rfl dX0_drainPlace_4 ?_
  refine lv_aload_n hx hb dX0_drainPlace_7 rfl (lv_at hl 1 rfl) ?_
  refine dw_g6_0 (t := 2) C0 Z dw_kc1 tw_fX0_63 rfl dX0_drainPlace_8 ?_
  refine dw_g1_3 (t := 4) C0 Z dw_kc2 tw_fX0_96 rfl dX0_drainPlace_11 ?_
  refine lv_iload_n hx hb dX0_drainPlace_14 rfl (lv_at hl 3 rfl) ?_
  obtain ⟨g1, h⟩ := dw_gdS h
  refine dw_ald C0 Z dw_kc4 dw_lc4 g1 dX0_drainPlace_15 ?_
  obtain ⟨r3, hc2, h⟩ := dw_bdS h
  refine dw_cNi (host := RX9) C0 Z dw_hA (As := [.ref (dw_ad Γ 6), .int (μ.1 4 a1.toNatClampNeg)]) (rest := []) (kX9_numberAt l Γ hj μ 6 dw_kc6 (μ.1 4 a1.toNatClampNeg) hc2) (by decide +kernel) tw_kX9_numberAt tw_iX9 tw_sX9_numberAt dw_hX9_numberAt ⟨Nat.le_of_ble_eq_true rfl, Nat.le_of_ble_eq_true rfl⟩ ⟨Nat.zero_le _, Nat.zero_le _⟩ hl.1 (Nat.le_of_ble_eq_true rfl) rfl dX0_drainPlace_16 (fun H locs Z => ?_)
  refine lv_istore (lv' := [(4, .int r3), (0, .ref (dw_ad Γ 135)), (1, .ref (dw_ad Γ 1)), (2, .ref (dw_ad Γ i)), (3, .int a1)]) hx hb dX0_drainPlace_19 hl (by decide) rfl (fun ls hl => ?_)
  refine lv_iconst (v := (0 : Int32)) hx hb dX0_drainPlace_21 (by decide) ?_
  refine lv_istore (lv' := [(5, .int (0 : Int32)), (4, .int r3), (0, .ref (dw_ad Γ 135)), (1, .ref (dw_ad Γ 1)), (2, .ref (dw_ad Γ i)), (3, .int a1)]) hx hb dX0_drainPlace_22 hl (by decide) rfl (fun ls hl => ?_)
  obtain ⟨kc24, ekc24, h⟩ := dw_bdK h
  have E24 : ∀ (μ19 : dw_M) (H : Heap) (locs : List Loc) (ls : Array Slot), dw_Z Γ (dw_A Γ) s.heap μ19 H locs → lv_has ls 9 [] → kc24 μ19 = some ν → W p l e (dw_rm 2 44) s m ([.ref (dw_ad Γ 135), .ref (dw_ad Γ 1), .ref (dw_ad Γ i), .int a1] : List Value).toArray below meth c H locs 0 0 (MQ below (dw_Qv Γ ν) ([.ref (dw_ad Γ 135), .ref (dw_ad Γ 1), .ref (dw_ad Γ i), .int a1] : List Value).toArray s 0 0 (dw_A Γ)) (F0 m 136 ls []) := by
    intro μ19 H locs ls Z hl h
    rw [ekc24] at h
    dsimp only at h
    obtain rfl := dw_s1 h
    exact dw_vret C0 Z hr hlk dX0_drainPlace_136
  have L24 : ∀ (n24 : Nat) (x4 : Int32) (μ5 : dw_M) (H : Heap) (locs : List Loc) (ls : Array Slot), dw_Z Γ (dw_A Γ) s.heap μ5 H locs → lv_has ls 9 [(0, .ref (dw_ad Γ 135)), (1, .ref (dw_ad Γ 1)), (2, .ref (dw_ad Γ i)), (3, .int a1), (4, .int r3), (5, .int x4)] → dw_bd (dw_wh (fun v => sX0_drainPlace_24 i a1 r3 v.1 v.2) n24 (x4, μ5)) kc24 = some ν → W p l e (dw_rm 2 44) s m ([.ref (dw_ad Γ 135), .ref (dw_ad Γ 1), .ref (dw_ad Γ i), .int a1] : List Value).toArray below meth c H locs 0 0 (MQ below (dw_Qv Γ ν) ([.ref (dw_ad Γ 135), .ref (dw_ad Γ 1), .ref (dw_ad Γ i), .int a1] : List Value).toArray s 0 0 (dw_A Γ)) (F0 m 24 ls []) := by
    clear h
    intro n24
    induction n24 with
    | zero =>
      intro x4 μ5 H locs ls Z hl h
      exact (dw_wh0 h).elim
    | succ n24 ih24 =>
      intro x4 μ5 H locs ls Z hl h
      obtain ⟨q24, hs, hq24⟩ := dw_whB h
      have h : sX0_drainPlace_24 i a1 r3 x4 μ5 = some q24 := hs
      unfold sX0_drainPlace_24 at h
      refine lv_iload hx hb dX0_drainPlace_24 (lv_at hl 5 rfl) ?_
      refine lv_aload_n hx hb dX0_drainPlace_26 rfl (lv_at hl 0 rfl) ?_
      refine dw_g0_2 (t := 137) C0 Z dw_kc135 tw_fX0_15 rfl dX0_drainPlace_27 ?_
      refine lv_iload_n hx hb dX0_drainPlace_30 rfl (lv_at hl 3 rfl) ?_
      refine dw_ald C0 Z dw_kc137 dw_lc137 g1 dX0_drainPlace_31 ?_
      refine lv_icmp_ge (tgt := 136) hx hb dX0_drainPlace_32 (by decide) (fun c6 => ?_) (fun c6 => ?_)
      · have h := dw_ifT c6 h
        obtain rfl := dw_s1 h
        exact E24  μ5 H locs ls Z (lv_sub hl [] rfl) hq24
      · have h := dw_ifF c6 h
        refine lv_aload_n hx hb dX0_drainPlace_35 rfl (lv_at hl 0 rfl) ?_
        refine dw_g0_3 (t := 138) C0 Z dw_kc135 tw_fX0_18 rfl dX0_drainPlace_36 ?_
        refine lv_iload_n hx hb dX0_drainPlace_39 rfl (lv_at hl 3 rfl) ?_
        refine lv_bipush (v := (20 : Int32)) hx hb dX0_drainPlace_40 (by decide) ?_
        refine lv_imul hx hb dX0_drainPlace_42 ?_
        refine lv_iload hx hb dX0_drainPlace_43 (lv_at hl 5 rfl) ?_
        refine lv_iadd hx hb dX0_drainPlace_45 ?_
        obtain ⟨r8, hc7, h⟩ := dw_bdS h
        refine dw_cNi (host := RX9) C0 Z dw_hA (As := [.ref (dw_ad Γ 138), .int ((a1 * (20 : Int32)) + x4)]) (rest := []) (kX9_numberAt l Γ hj μ5 138 dw_kc138 ((a1 * (20 : Int32)) + x4) hc7) (by decide +kernel) tw_kX9_numberAt tw_iX9 tw_sX9_numberAt dw_hX9_numberAt ⟨Nat.le_of_ble_eq_true rfl, Nat.le_of_ble_eq_true rfl⟩ ⟨Nat.zero_le _, Nat.zero_le _⟩ hl.1 (Nat.le_of_ble_eq_true rfl) rfl dX0_drainPlace_46 (fun H locs Z => ?_)
        refine lv_istore (lv' := [(6, .int r8), (0, .ref (dw_ad Γ 135)), (1, .ref (dw_ad Γ 1)), (2, .ref (dw_ad Γ i)), (3, .int a1), (4, .int r3), (5, .int x4)]) hx hb dX0_drainPlace_49 hl (by decide) rfl (fun ls hl => ?_)
        refine lv_aload_n hx hb dX0_drainPlace_51 rfl (lv_at hl 1 rfl) ?_
        refine lv_aload_n hx hb dX0_drainPlace_52 rfl (lv_at hl 2 rfl) ?_
        refine dw_g6_2 (t := 11) C0 Z dw_kc1 tw_fX0_81 rfl dX0_drainPlace_53 ?_
        refine lv_aload_n hx hb dX0_drainPlace_56 rfl (lv_at hl 3 rfl) ?_
        refine lv_iload hx hb dX0_drainPlace_57 (lv_at hl 0 rfl) ?_
        obtain ⟨r10, hc9, h⟩ := dw_bdS h
        refine dw_cVi C0 Z dw_hA (dw_lt dw_kc135 (by decide)) (dw_cz0 dw_kc135) rfl (As := [.ref (dw_ad Γ 11), .ref (dw_ad Γ i), .int r8]) (rest := []) (kX0_isDraining l Γ hj μ5 i hk_i r8 hc9) (dw_gV tw_lX0_127 tw_vX0_isDraining tw_eX0_isDraining tw_iX0 tw_kX0_isDraining) dw_hX0_isDraining ⟨Nat.le_of_ble_eq_true rfl, Nat.le_of_ble_eq_true rfl⟩ ⟨Nat.zero_le _, Nat.zero_le _⟩ hl.1 (Nat.le_of_ble_eq_true rfl) rfl dX0_drainPlace_59 (fun H locs Z => ?_)
        refine lv_if_eq (tgt := 130) hx hb dX0_drainPlace_62 (by decide) (fun c11 => ?_) (fun c11 => ?_)
        · have h := dw_ifT c11 h
          obtain ⟨x12, ex12⟩ := dw_eg (x4 + (1 : Int32))
          have h := dw_nmS ex12 h
          refine lv_iinc (v := x12) (lv' := [(5, .int x12), (6, .int r8), (0, .ref (dw_ad Γ 135)), (1, .ref (dw_ad Γ 1)), (2, .ref (dw_ad Γ i)), (3, .int a1), (4, .int r3)]) hx hb dX0_drainPlace_130 hl (k := 6) rfl (by rw [ex12]; rfl) (by decide) rfl (fun ls hl => ?_)
          refine lv_goto (tgt := 24) hx hb dX0_drainPlace_133 (by decide) ?_
          obtain rfl := dw_s1 h
          exact ih24 x12 μ5 H locs ls Z (lv_sub hl [2, 3, 4, 5, 6, 0] rfl) hq24
        · have h := dw_ifF c11 h
          refine lv_aload_n hx hb dX0_drainPlace_65 rfl (lv_at hl 2 rfl) ?_
          refine dw_g6_2 (t := 11) C0 Z dw_kc1 tw_fX0_81 rfl dX0_drainPlace_66 ?_
          refine dw_g4_0 (t := 12) C0 Z dw_kc11 tw_fX0_44 rfl dX0_drainPlace_69 ?_
          refine lv_iload hx hb dX0_drainPlace_72 (lv_at hl 0 rfl) ?_
          obtain ⟨g13, h⟩ := dw_gdS h
          refine dw_aald C0 Z dw_kc12 g13 dX0_drainPlace_74 ?_
          refine dw_g5_4 C0 Z (dw_pk dw_kc12 (dw_ok_lt g13)) tw_fX0_131 dX0_drainPlace_75 ?_
          refine lv_aload_n hx hb dX0_drainPlace_78 rfl (lv_at hl 3 rfl) ?_
          refine dw_g8_2 (t := (i + 3)) C0 Z hk_i tw_fX0_134 rfl dX0_drainPlace_79 ?_
          refine lv_iload hx hb dX0_drainPlace_82 (lv_at hl 0 rfl) ?_
          refine dw_ald C0 Z (dw_r8_2 hk_i) (dw_n8_2 hk_i) g13 dX0_drainPlace_84 ?_
          refine lv_isub hx hb dX0_drainPlace_85 ?_
          refine lv_topi (fun x14 ex14 => ?_)
          have h := dw_nmS ex14 h
          refine lv_istore (lv' := [(7, .int x14), (6, .int r8), (0, .ref (dw_ad Γ 135)), (1, .ref (dw_ad Γ 1)), (2, .ref (dw_ad Γ i)), (3, .int a1), (4, .int r3), (5, .int x4)]) hx hb dX0_drainPlace_86 hl (by decide) rfl (fun ls hl => ?_)
          refine lv_iload hx hb dX0_drainPlace_88 (lv_at hl 0 rfl) ?_
          refine lv_aload_n hx hb dX0_drainPlace_90 rfl (lv_at hl 4 rfl) ?_
          refine dw_g8_1 (t := (i + 2)) C0 Z hk_i tw_fX0_115 rfl dX0_drainPlace_91 ?_
          refine lv_iload_n hx hb dX0_drainPlace_94 rfl (lv_at hl 5 rfl) ?_
          refine dw_ald C0 Z (dw_r8_1 hk_i) (dw_n8_1 hk_i) g1 dX0_drainPlace_95 ?_
          refine lv_iload hx hb dX0_drainPlace_96 (lv_at hl 6 rfl) ?_
          refine lv_imul hx hb dX0_drainPlace_98 ?_
          refine lv_bipush (v := (100 : Int32)) hx hb dX0_drainPlace_99 (by decide) ?_
          refine lv_idiv hx hb dX0_drainPlace_101 (by decide) ?_
          refine dw_mmin C0 hl.1 tw_lX0_121 (Nat.le_of_ble_eq_true rfl) (Nat.le_of_ble_eq_true rfl) ⟨Nat.zero_le _, Nat.zero_le _⟩ dX0_drainPlace_102 ?_
          refine lv_topi (fun x15 ex15 => ?_)
          have h := dw_nmS ex15 h
          refine lv_istore (lv' := [(8, .int x15), (7, .int x14), (6, .int r8), (0, .ref (dw_ad Γ 135)), (1, .ref (dw_ad Γ 1)), (2, .ref (dw_ad Γ i)), (3, .int a1), (4, .int r3), (5, .int x4)]) hx hb dX0_drainPlace_105 hl (by decide) rfl (fun ls hl => ?_)
          refine lv_aload_n hx hb dX0_drainPlace_107 rfl (lv_at hl 5 rfl) ?_
          refine dw_g8_1 (t := (i + 2)) C0 Z hk_i tw_fX0_115 rfl dX0_drainPlace_108 ?_
          refine lv_iload_n hx hb dX0_drainPlace_111 rfl (lv_at hl 6 rfl) ?_
          refine lv_dup2_11 hx hb dX0_drainPlace_112 rfl rfl ?_
          refine dw_ald C0 Z (dw_r8_1 hk_i) (dw_n8_1 hk_i) g1 dX0_drainPlace_113 ?_
          refine lv_iload hx hb dX0_drainPlace_114 (lv_at hl 0 rfl) ?_
          refine lv_isub hx hb dX0_drainPlace_116 ?_
          refine dw_ast C0 Z dw_hA (dw_r8_1 hk_i) (dw_n8_1 hk_i) g1 dX0_drainPlace_117 (fun μ16 eμ16 H locs Z => ?_)
          have h := dw_nmS eμ16 h
          refine lv_aload_n hx hb dX0_drainPlace_118 rfl (lv_at hl 5 rfl) ?_
          refine dw_g8_2 (t := (i + 3)) C0 Z hk_i tw_fX0_134 rfl dX0_drainPlace_119 ?_
          refine lv_iload hx hb dX0_drainPlace_122 (lv_at hl 2 rfl) ?_
          refine lv_dup2_11 hx hb dX0_drainPlace_124 rfl rfl ?_
          refine dw_ald C0 Z (dw_r8_2 hk_i) (dw_n8_2 hk_i) g13 dX0_drainPlace_125 ?_
          refine lv_iload hx hb dX0_drainPlace_126 (lv_at hl 0 rfl) ?_
          refine lv_iadd hx hb dX0_drainPlace_128 ?_
          refine dw_ast C0 Z dw_hA (dw_r8_2 hk_i) (dw_n8_2 hk_i) g13 dX0_drainPlace_129 (fun μ17 eμ17 H locs Z => ?_)
          have h := dw_nmS eμ17 h
          obtain ⟨x18, ex18⟩ := dw_eg (x4 + (1 : Int32))
          have h := dw_nmS ex18 h
          refine lv_iinc (v := x18) (lv' := [(5, .int x18), (8, .int x15), (7, .int x14), (6, .int r8), (0, .ref (dw_ad Γ 135)), (1, .ref (dw_ad Γ 1)), (2, .ref (dw_ad Γ i)), (3, .int a1), (4, .int r3)]) hx hb dX0_drainPlace_130 hl (k := 8) rfl (by rw [ex18]; rfl) (by decide) rfl (fun ls hl => ?_)
          refine lv_goto (tgt := 24) hx hb dX0_drainPlace_133 (by decide) ?_
          obtain rfl := dw_s1 h
          exact ih24 x18 μ17 H locs ls Z (lv_sub hl [4, 5, 6, 7, 8, 0] rfl) hq24
  exact L24 1000 (0 : Int32) μ H locs ls Z (lv_sub hl [2, 3, 4, 5, 1, 0] rfl) h

def fX9_isDitch (a1 : Int32) : Int32 :=
  if a1 < 0 then (
   (0 : Int32))
  else (
  if (4 : Int32) ≤ a1 then (
   (0 : Int32))
  else (
   (1 : Int32)))
set_option maxHeartbeats 4000000 in
set_option maxRecDepth 100000 in
theorem kX9_isDitch (l : Launch) (Γ : dw_G) (hj : dw_inj Γ) (μ : dw_M) (a1 : Int32) {r : Int32} (h : fX9_isDitch a1 = r) : Met l yX9_isDitch (dw_ws yX9_isDitch cX9_isDitch 1 (some .boolean)) (dw_rm 0 0) (dw_P Γ ([.int a1] : List Value) μ) (dw_Qi Γ r μ) 0 0 (dw_A Γ) := by
  refine dw_met (own := RX9) rfl rfl (Nat.le_of_ble_eq_true rfl) hj ?_
  intro p e s m below meth c C0 hr hlk Z ls hl
  have hx := C0.1
  have hb := C0.2.1
  have hl : lv_has ls 1 [(0, .int a1)] := hl
  suffices key : ∀ (H : Heap) (locs : List Loc), dw_Z Γ (dw_A Γ) s.heap μ H locs → W p l e (dw_rm 0 0) s m ([.int a1] : List Value).toArray below meth c H locs 0 0 (MQ below (dw_Qi Γ r μ) ([.int a1] : List Value).toArray s 0 0 (dw_A Γ)) (F0 m 0 ls []) from key _ _ Z
  clear Z
  intro H locs Z
  unfold fX9_isDitch at h
  refine lv_iload_n hx hb dX9_isDitch_0 rfl (lv_at hl 0 rfl) ?_
  refine lv_if_lt (tgt := 13) hx hb dX9_isDitch_1 (by decide) (fun c1 => ?_) (fun c1 => ?_)
  · have h := dw_ifT c1 h
    refine lv_iconst (v := (0 : Int32)) hx hb dX9_isDitch_13 (by decide) ?_
    obtain rfl := dw_t1 h
    exact dw_zret C0 Z hr hlk rfl dX9_isDitch_14
  · have h := dw_ifF c1 h
    refine lv_iload_n hx hb dX9_isDitch_4 rfl (lv_at hl 0 rfl) ?_
    refine lv_iconst (v := (4 : Int32)) hx hb dX9_isDitch_5 (by decide) ?_
    refine lv_icmp_ge (tgt := 13) hx hb dX9_isDitch_6 (by decide) (fun c2 => ?_) (fun c2 => ?_)
    · have h := dw_ifT c2 h
      refine lv_iconst (v := (0 : Int32)) hx hb dX9_isDitch_13 (by decide) ?_
      obtain rfl := dw_t1 h
      exact dw_zret C0 Z hr hlk rfl dX9_isDitch_14
    · have h := dw_ifF c2 h
      refine lv_iconst (v := (1 : Int32)) hx hb dX9_isDitch_9 (by decide) ?_
      refine lv_goto (tgt := 14) hx hb dX9_isDitch_10 (by decide) ?_
      obtain rfl := dw_t1 h
      exact dw_zret C0 Z hr hlk rfl dX9_isDitch_14
theorem zX9_isDitch (a1 : Int32) : narrow .boolean (.int (fX9_isDitch a1)) = .int (fX9_isDitch a1) := by
  unfold fX9_isDitch
  repeat' split
  all_goals first | rfl

def fX3_levelAt (μ : dw_M) (i : Nat) (a1 : Int32) : Int32 :=
   ((μ.1 i 3) - (a1 * (μ.1 i 4)))
set_option maxHeartbeats 4000000 in
set_option maxRecDepth 100000 in
theorem kX3_levelAt (l : Launch) (Γ : dw_G) (hj : dw_inj Γ) (μ : dw_M) (i : Nat) (hk_i : dw_kd i = 3) (a1 : Int32) {r : Int32} (h : fX3_levelAt μ i a1 = r) : Met l yX3_levelAt (dw_ws yX3_levelAt cX3_levelAt 2 (some .int)) (dw_rm 0 0) (dw_P Γ ([.ref (dw_ad Γ i), .int a1] : List Value) μ) (dw_Qi Γ r μ) 0 0 (dw_A Γ) := by
  refine dw_met (own := RX3) rfl rfl (Nat.le_of_ble_eq_true rfl) hj ?_
  intro p e s m below meth c C0 hr hlk Z ls hl
  have hx := C0.1
  have hb := C0.2.1
  have hl : lv_has ls 2 [(0, .ref (dw_ad Γ i)), (1, .int a1)] := hl
  suffices key : ∀ (H : Heap) (locs : List Loc), dw_Z Γ (dw_A Γ) s.heap μ H locs → W p l e (dw_rm 0 0) s m ([.ref (dw_ad Γ i), .int a1] : List Value).toArray below meth c H locs 0 0 (MQ below (dw_Qi Γ r μ) ([.ref (dw_ad Γ i), .int a1] : List Value).toArray s 0 0 (dw_A Γ)) (F0 m 0 ls []) from key _ _ Z
  clear Z
  intro H locs Z
  unfold fX3_levelAt at h
  refine lv_aload_n hx hb dX3_levelAt_0 rfl (lv_at hl 0 rfl) ?_
  refine dw_g3_3 C0 Z hk_i tw_fX3_19 dX3_levelAt_1 ?_
  refine lv_iload_n hx hb dX3_levelAt_4 rfl (lv_at hl 1 rfl) ?_
  refine lv_aload_n hx hb dX3_levelAt_5 rfl (lv_at hl 0 rfl) ?_
  refine dw_g3_4 C0 Z hk_i tw_fX3_22 dX3_levelAt_6 ?_
  refine lv_imul hx hb dX3_levelAt_9 ?_
  refine lv_isub hx hb dX3_levelAt_10 ?_
  obtain rfl := dw_t1 h
  exact dw_iret C0 Z hr hlk dX3_levelAt_11

def fX0_mostInto (μ : dw_M) (i : Nat) (j : Nat) : Option (Int32) :=
  dw_nm ((μ.1 j 5) - (100 : Int32)) (fun x1 =>
  if (fX4_hasPipe μ (μ.1 j 5)) = 0 then (
  if (fX9_isDitch x1) = 0 then (
  some (0 : Int32))
  else (
  dw_nm (fX3_levelAt μ (j + 1) ((μ.1 (j + 1) 2) - (1 : Int32))) (fun x4 =>
  dw_gd (dw_ok x1 4) (
  dw_jm (fun (x6 : Int32) =>
  if x6 = 0 then (
  some (μ.1 j 3))
  else (
  some (0 : Int32))) (fun k97 =>
  if (μ.1 9 x1.toNatClampNeg) ≤ x4 then (
  k97 (0 : Int32))
  else (
  k97 (1 : Int32)))))))
  else (
  dw_gd (dw_ok (μ.1 j 5) 20) (
  some ((μ.1 (12 + 1 + 2 * (μ.1 j 5).toNatClampNeg) 4) - (μ.1 (i + 3) (μ.1 j 5).toNatClampNeg)))))
set_option maxHeartbeats 4000000 in
set_option maxRecDepth 100000 in
theorem kX0_mostInto (l : Launch) (Γ : dw_G) (hj : dw_inj Γ) (μ : dw_M) (i : Nat) (hk_i : dw_kd i = 8) (j : Nat) (hk_j : dw_kd j = 5) {r : Int32} (h : fX0_mostInto μ i j = some r) : Met l yX0_mostInto (dw_ws yX0_mostInto cX0_mostInto 7 (some .int)) (dw_rm 1 21) (dw_P Γ ([.ref (dw_ad Γ 135), .ref (dw_ad Γ 1), .ref (dw_ad Γ i), .ref (dw_ad Γ j)] : List Value) μ) (dw_Qi Γ r μ) 0 0 (dw_A Γ) := by
  refine dw_met (own := RX0) rfl rfl (Nat.le_of_ble_eq_true rfl) hj ?_
  intro p e s m below meth c C0 hr hlk Z ls hl
  have hx := C0.1
  have hb := C0.2.1
  have hl : lv_has ls 7 [(0, .ref (dw_ad Γ 135)), (1, .ref (dw_ad Γ 1)), (2, .ref (dw_ad Γ i)), (3, .ref (dw_ad Γ j))] := hl
  suffices key : ∀ (H : Heap) (locs : List Loc), dw_Z Γ (dw_A Γ) s.heap μ H locs → W p l e (dw_rm 1 21) s m ([.ref (dw_ad Γ 135), .ref (dw_ad Γ 1), .ref (dw_ad Γ i), .ref (dw_ad Γ j)] : List Value).toArray below meth c H locs 0 0 (MQ below (dw_Qi Γ r μ) ([.ref (dw_ad Γ 135), .ref (dw_ad Γ 1), .ref (dw_ad Γ i), .ref (dw_ad Γ j)] : List Value).toArray s 0 0 (dw_A Γ)) (F0 m 0 ls []) from key _ _ Z
  clear Z
  intro H locs Z
  unfold fX0_mostInto at h
  refine lv_aload_n hx hb dX0_mostInto_0 rfl (lv_at hl 3 rfl) ?_
  refine dw_g5_5 C0 Z hk_j tw_fX0_163 dX0_mostInto_1 ?_
  refine lv_bipush (v := (100 : Int32)) hx hb dX0_mostInto_4 (by decide) ?_
  refine lv_isub hx hb dX0_mostInto_6 ?_
  refine lv_topi (fun x1 ex1 => ?_)
  have h := dw_nmS ex1 h
  refine lv_istore (lv' := [(4, .int x1), (0, .ref (dw_ad Γ 135)), (1, .ref (dw_ad Γ 1)), (2, .ref (dw_ad Γ i)), (3, .ref (dw_ad Γ j))]) hx hb dX0_mostInto_7 hl (by decide) rfl (fun ls hl => ?_)
  refine lv_aload_n hx hb dX0_mostInto_9 rfl (lv_at hl 2 rfl) ?_
  refine dw_g6_2 (t := 11) C0 Z dw_kc1 tw_fX0_81 rfl dX0_mostInto_10 ?_
  refine lv_aload_n hx hb dX0_mostInto_13 rfl (lv_at hl 4 rfl) ?_
  refine dw_g5_5 C0 Z hk_j tw_fX0_163 dX0_mostInto_14 ?_
  refine dw_cVi C0 Z dw_hA (dw_lt dw_kc11 (by decide)) (dw_cz4 dw_kc11) rfl (As := [.int (μ.1 j 5)]) (rest := []) (kX4_hasPipe l Γ hj μ (μ.1 j 5) rfl) (dw_gV tw_lX0_137 tw_vX4_hasPipe tw_eX4_hasPipe tw_iX4 tw_kX4_hasPipe) dw_hX4_hasPipe ⟨Nat.le_of_ble_eq_true rfl, Nat.le_of_ble_eq_true rfl⟩ ⟨Nat.zero_le _, Nat.zero_le _⟩ hl.1 (Nat.le_of_ble_eq_true rfl) rfl dX0_mostInto_17 (fun H locs Z => ?_)
  refine lv_if_eq (tgt := 49) hx hb dX0_mostInto_20 (by decide) (fun c2 => ?_) (fun c2 => ?_)
  · have h := dw_ifT c2 h
    refine lv_iload hx hb dX0_mostInto_49 (lv_at hl 0 rfl) ?_
    refine dw_cNi (host := RX9) C0 Z dw_hA (As := [.int x1]) (rest := []) (kX9_isDitch l Γ hj μ x1 rfl) (by decide +kernel) tw_kX9_isDitch tw_iX9 tw_sX9_isDitch dw_hX9_isDitch ⟨Nat.le_of_ble_eq_true rfl, Nat.le_of_ble_eq_true rfl⟩ ⟨Nat.zero_le _, Nat.zero_le _⟩ hl.1 (Nat.le_of_ble_eq_true rfl) rfl dX0_mostInto_51 (fun H locs Z => ?_)
    refine lv_if_ne (tgt := 59) hx hb dX0_mostInto_54 (by decide) (fun c3 => ?_) (fun c3 => ?_)
    · have h := dw_ifF c3 h
      refine lv_aload_n hx hb dX0_mostInto_59 rfl (lv_at hl 4 rfl) ?_
      refine dw_g5_0 (t := (j + 1)) C0 Z hk_j tw_fX0_54 rfl dX0_mostInto_60 ?_
      refine lv_aload_n hx hb dX0_mostInto_63 rfl (lv_at hl 4 rfl) ?_
      refine dw_g5_0 (t := (j + 1)) C0 Z hk_j tw_fX0_54 rfl dX0_mostInto_64 ?_
      refine dw_g3_2 C0 Z (dw_r5_0 hk_j) tw_fX0_172 dX0_mostInto_67 ?_
      refine lv_iconst (v := (1 : Int32)) hx hb dX0_mostInto_70 (by decide) ?_
      refine lv_isub hx hb dX0_mostInto_71 ?_
      refine dw_cVi C0 Z dw_hA (dw_lt (dw_r5_0 hk_j) (by decide)) (dw_cz3 (dw_r5_0 hk_j)) rfl (As := [.int ((μ.1 (j + 1) 2) - (1 : Int32))]) (rest := []) (kX3_levelAt l Γ hj μ (j + 1) (dw_r5_0 hk_j) ((μ.1 (j + 1) 2) - (1 : Int32)) rfl) (dw_gV tw_lX0_175 tw_vX3_levelAt tw_eX3_levelAt tw_iX3 tw_kX3_levelAt) dw_hX3_levelAt ⟨Nat.le_of_ble_eq_true rfl, Nat.le_of_ble_eq_true rfl⟩ ⟨Nat.zero_le _, Nat.zero_le _⟩ hl.1 (Nat.le_of_ble_eq_true rfl) rfl dX0_mostInto_72 (fun H locs Z => ?_)
      refine lv_topi (fun x4 ex4 => ?_)
      have h := dw_nmS ex4 h
      refine lv_istore (lv' := [(5, .int x4), (4, .int x1), (0, .ref (dw_ad Γ 135)), (1, .ref (dw_ad Γ 1)), (2, .ref (dw_ad Γ i)), (3, .ref (dw_ad Γ j))]) hx hb dX0_mostInto_75 hl (by decide) rfl (fun ls hl => ?_)
      refine lv_aload_n hx hb dX0_mostInto_77 rfl (lv_at hl 3 rfl) ?_
      refine dw_g6_0 (t := 2) C0 Z dw_kc1 tw_fX0_63 rfl dX0_mostInto_78 ?_
      refine dw_g1_8 (t := 9) C0 Z dw_kc2 tw_fX0_178 rfl dX0_mostInto_81 ?_
      refine lv_iload hx hb dX0_mostInto_84 (lv_at hl 1 rfl) ?_
      obtain ⟨g5, h⟩ := dw_gdS h
      refine dw_ald C0 Z dw_kc9 dw_lc9 g5 dX0_mostInto_86 ?_
      refine lv_iload hx hb dX0_mostInto_87 (lv_at hl 0 rfl) ?_
      obtain ⟨k97, ek97, h⟩ := dw_jnS h
      have J97 : ∀ (x6 : Int32) (H : Heap) (locs : List Loc) (ls : Array Slot), dw_Z Γ (dw_A Γ) s.heap μ H locs → lv_has ls 7 [(3, .ref (dw_ad Γ j))] → k97 x6 = some r → W p l e (dw_rm 1 21) s m ([.ref (dw_ad Γ 135), .ref (dw_ad Γ 1), .ref (dw_ad Γ i), .ref (dw_ad Γ j)] : List Value).toArray below meth c H locs 0 0 (MQ below (dw_Qi Γ r μ) ([.ref (dw_ad Γ 135), .ref (dw_ad Γ 1), .ref (dw_ad Γ i), .ref (dw_ad Γ j)] : List Value).toArray s 0 0 (dw_A Γ)) (F0 m 97 ls [.int x6]) := by
        clear h
        intro x6 H locs ls Z hl h
        rw [ek97] at h
        dsimp only at h
        refine lv_istore (lv' := [(6, .int x6), (3, .ref (dw_ad Γ j))]) hx hb dX0_mostInto_97 hl (by decide) rfl (fun ls hl => ?_)
        refine lv_iload hx hb dX0_mostInto_99 (lv_at hl 0 rfl) ?_
        refine lv_if_eq (tgt := 108) hx hb dX0_mostInto_101 (by decide) (fun c7 => ?_) (fun c7 => ?_)
        · have h := dw_ifT c7 h
          refine lv_aload_n hx hb dX0_mostInto_108 rfl (lv_at hl 1 rfl) ?_
          refine dw_g5_3 C0 Z hk_j tw_fX0_157 dX0_mostInto_109 ?_
          obtain rfl := dw_s1 h
          exact dw_iret C0 Z hr hlk dX0_mostInto_112
        · have h := dw_ifF c7 h
          refine lv_iconst (v := (0 : Int32)) hx hb dX0_mostInto_104 (by decide) ?_
          refine lv_goto (tgt := 112) hx hb dX0_mostInto_105 (by decide) ?_
          obtain rfl := dw_s1 h
          exact dw_iret C0 Z hr hlk dX0_mostInto_112
      refine lv_icmp_le (tgt := 96) hx hb dX0_mostInto_89 (by decide) (fun c8 => ?_) (fun c8 => ?_)
      · have h := dw_ifT c8 h
        refine lv_iconst (v := (0 : Int32)) hx hb dX0_mostInto_96 (by decide) ?_
        exact J97 (0 : Int32) H locs ls Z (lv_sub hl [5] rfl) h
      · have h := dw_ifF c8 h
        refine lv_iconst (v := (1 : Int32)) hx hb dX0_mostInto_92 (by decide) ?_
        refine lv_goto (tgt := 97) hx hb dX0_mostInto_93 (by decide) ?_
        exact J97 (1 : Int32) H locs ls Z (lv_sub hl [5] rfl) h
    · have h := dw_ifT c3 h
      refine lv_iconst (v := (0 : Int32)) hx hb dX0_mostInto_57 (by decide) ?_
      obtain rfl := dw_s1 h
      exact dw_iret C0 Z hr hlk dX0_mostInto_58
  · have h := dw_ifF c2 h
    refine lv_aload_n hx hb dX0_mostInto_23 rfl (lv_at hl 2 rfl) ?_
    refine dw_g6_2 (t := 11) C0 Z dw_kc1 tw_fX0_81 rfl dX0_mostInto_24 ?_
    refine dw_g4_0 (t := 12) C0 Z dw_kc11 tw_fX0_44 rfl dX0_mostInto_27 ?_
    refine lv_aload_n hx hb dX0_mostInto_30 rfl (lv_at hl 4 rfl) ?_
    refine dw_g5_5 C0 Z hk_j tw_fX0_163 dX0_mostInto_31 ?_
    obtain ⟨g9, h⟩ := dw_gdS h
    refine dw_aald C0 Z dw_kc12 g9 dX0_mostInto_34 ?_
    refine dw_g5_4 C0 Z (dw_pk dw_kc12 (dw_ok_lt g9)) tw_fX0_131 dX0_mostInto_35 ?_
    refine lv_aload_n hx hb dX0_mostInto_38 rfl (lv_at hl 3 rfl) ?_
    refine dw_g8_2 (t := (i + 3)) C0 Z hk_i tw_fX0_134 rfl dX0_mostInto_39 ?_
    refine lv_aload_n hx hb dX0_mostInto_42 rfl (lv_at hl 4 rfl) ?_
    refine dw_g5_5 C0 Z hk_j tw_fX0_163 dX0_mostInto_43 ?_
    refine dw_ald C0 Z (dw_r8_2 hk_i) (dw_n8_2 hk_i) g9 dX0_mostInto_46 ?_
    refine lv_isub hx hb dX0_mostInto_47 ?_
    obtain rfl := dw_s1 h
    exact dw_iret C0 Z hr hlk dX0_mostInto_48

def fX0_passOn (μ : dw_M) (i : Nat) (a1 : Int32) : Option (dw_M) :=
  dw_gd (dw_ok a1 20) (
  dw_jm (fun (x2 : Int32) =>
  dw_nm (dw_mn x2 (dw_mn (μ.1 (12 + 1 + 2 * a1.toNatClampNeg) 3) (μ.1 (i + 3) a1.toNatClampNeg))) (fun x3 =>
  dw_nm (dw_st μ (i + 5) a1.toNatClampNeg x3) (fun μ4 =>
  dw_nm (dw_st μ4 (i + 3) a1.toNatClampNeg ((μ4.1 (i + 3) a1.toNatClampNeg) - x3)) (fun μ5 =>
  dw_nm ((μ5.1 (12 + 1 + 2 * a1.toNatClampNeg) 5) - (100 : Int32)) (fun x6 =>
  if (fX4_hasPipe μ5 (μ5.1 (12 + 1 + 2 * a1.toNatClampNeg) 5)) = 0 then (
  if (fX9_isDitch x6) = 0 then (
  some μ5)
  else (
  dw_gd (dw_ok x6 4) (
  dw_nm (dw_st μ5 (i + 6) x6.toNatClampNeg ((μ5.1 (i + 6) x6.toNatClampNeg) + x3)) (fun μ10 =>
  some μ10))))
  else (
  dw_gd (dw_ok (μ5.1 (12 + 1 + 2 * a1.toNatClampNeg) 5) 20) (
  dw_nm (dw_st μ5 (i + 3) (μ5.1 (12 + 1 + 2 * a1.toNatClampNeg) 5).toNatClampNeg ((μ5.1 (i + 3) (μ5.1 (12 + 1 + 2 * a1.toNatClampNeg) 5).toNatClampNeg) + x3)) (fun μ12 =>
  some μ12)))))))) (fun k34 =>
  if (fX2_has μ (i + 7) a1) = 0 then (
  dw_bd (fX0_mostInto μ i (12 + 1 + 2 * a1.toNatClampNeg)) (fun r15 =>
  k34 r15))
  else (
  k34 (0 : Int32))))
set_option maxHeartbeats 4000000 in
set_option maxRecDepth 100000 in
theorem kX0_passOn (l : Launch) (Γ : dw_G) (hj : dw_inj Γ) (μ : dw_M) (i : Nat) (hk_i : dw_kd i = 8) (a1 : Int32) {ν : dw_M} (h : fX0_passOn μ i a1 = some ν) : Met l yX0_passOn (dw_ws yX0_passOn cX0_passOn 8 none) (dw_rm 2 47) (dw_P Γ ([.ref (dw_ad Γ 135), .ref (dw_ad Γ 1), .ref (dw_ad Γ i), .int a1] : List Value) μ) (dw_Qv Γ ν) 0 0 (dw_A Γ) := by
  refine dw_met (own := RX0) rfl rfl (Nat.le_of_ble_eq_true rfl) hj ?_
  intro p e s m below meth c C0 hr hlk Z ls hl
  have hx := C0.1
  have hb := C0.2.1
  have hl : lv_has ls 8 [(0, .ref (dw_ad Γ 135)), (1, .ref (dw_ad Γ 1)), (2, .ref (dw_ad Γ i)), (3, .int a1)] := hl
  suffices key : ∀ (H : Heap) (locs : List Loc), dw_Z Γ (dw_A Γ) s.heap μ H locs → W p l e (dw_rm 2 47) s m ([.ref (dw_ad Γ 135), .ref (dw_ad Γ 1), .ref (dw_ad Γ i), .int a1] : List Value).toArray below meth c H locs 0 0 (MQ below (dw_Qv Γ ν) ([.ref (dw_ad Γ 135), .ref (dw_ad Γ 1), .ref (dw_ad Γ i), .int a1] : List Value).toArray s 0 0 (dw_A Γ)) (F0 m 0 ls []) from key _ _ Z
  clear Z
  intro H locs Z
  unfold fX0_passOn at h
  refine lv_aload_n hx hb dX0_passOn_0 rfl (lv_at hl 1 rfl) ?_
  refine dw_g6_2 (t := 11) C0 Z dw_kc1 tw_fX0_81 rfl dX0_passOn_1 ?_
  refine dw_g4_0 (t := 12) C0 Z dw_kc11 tw_fX0_44 rfl dX0_passOn_4 ?_
  refine lv_iload_n hx hb dX0_passOn_7 rfl (lv_at hl 3 rfl) ?_
  obtain ⟨g1, h⟩ := dw_gdS h
  refine dw_aald C0 Z dw_kc12 g1 dX0_passOn_8 ?_
  refine lv_astore (lv' := [(4, .ref (dw_ad Γ (12 + 1 + 2 * a1.toNatClampNeg))), (0, .ref (dw_ad Γ 135)), (1, .ref (dw_ad Γ 1)), (2, .ref (dw_ad Γ i)), (3, .int a1)]) hx hb dX0_passOn_9 hl (by decide) rfl (fun ls hl => ?_)
  refine lv_aload_n hx hb dX0_passOn_11 rfl (lv_at hl 3 rfl) ?_
  refine dw_g8_6 (t := (i + 7)) C0 Z hk_i tw_fX0_141 rfl dX0_passOn_12 ?_
  refine lv_iload_n hx hb dX0_passOn_15 rfl (lv_at hl 4 rfl) ?_
  refine dw_cVi C0 Z dw_hA (dw_lt (dw_r8_6 hk_i) (by decide)) (dw_cz2 (dw_r8_6 hk_i)) rfl (As := [.int a1]) (rest := []) (kX2_has l Γ hj μ (i + 7) (dw_r8_6 hk_i) a1 rfl) (dw_gV tw_lX0_145 tw_vX2_has tw_eX2_has tw_iX2 tw_kX2_has) dw_hX2_has ⟨Nat.le_of_ble_eq_true rfl, Nat.le_of_ble_eq_true rfl⟩ ⟨Nat.zero_le _, Nat.zero_le _⟩ hl.1 (Nat.le_of_ble_eq_true rfl) rfl dX0_passOn_16 (fun H locs Z => ?_)
  obtain ⟨k34, ek34, h⟩ := dw_jnS h
  have J34 : ∀ (x2 : Int32) (H : Heap) (locs : List Loc) (ls : Array Slot), dw_Z Γ (dw_A Γ) s.heap μ H locs → lv_has ls 8 [(1, .ref (dw_ad Γ 1)), (2, .ref (dw_ad Γ i)), (3, .int a1), (4, .ref (dw_ad Γ (12 + 1 + 2 * a1.toNatClampNeg)))] → k34 x2 = some ν → W p l e (dw_rm 2 47) s m ([.ref (dw_ad Γ 135), .ref (dw_ad Γ 1), .ref (dw_ad Γ i), .int a1] : List Value).toArray below meth c H locs 0 0 (MQ below (dw_Qv Γ ν) ([.ref (dw_ad Γ 135), .ref (dw_ad Γ 1), .ref (dw_ad Γ i), .int a1] : List Value).toArray s 0 0 (dw_A Γ)) (F0 m 34 ls [.int x2]) := by
    clear h
    intro x2 H locs ls Z hl h
    rw [ek34] at h
    dsimp only at h
    refine lv_istore (lv' := [(5, .int x2), (1, .ref (dw_ad Γ 1)), (2, .ref (dw_ad Γ i)), (3, .int a1), (4, .ref (dw_ad Γ (12 + 1 + 2 * a1.toNatClampNeg)))]) hx hb dX0_passOn_34 hl (by decide) rfl (fun ls hl => ?_)
    refine lv_iload hx hb dX0_passOn_36 (lv_at hl 0 rfl) ?_
    refine lv_aload hx hb dX0_passOn_38 (lv_at hl 4 rfl) ?_
    refine dw_g5_3 C0 Z (dw_pk dw_kc12 (dw_ok_lt g1)) tw_fX0_157 dX0_passOn_40 ?_
    refine lv_aload_n hx hb dX0_passOn_43 rfl (lv_at hl 2 rfl) ?_
    refine dw_g8_2 (t := (i + 3)) C0 Z hk_i tw_fX0_134 rfl dX0_passOn_44 ?_
    refine lv_iload_n hx hb dX0_passOn_47 rfl (lv_at hl 3 rfl) ?_
    refine dw_ald C0 Z (dw_r8_2 hk_i) (dw_n8_2 hk_i) g1 dX0_passOn_48 ?_
    refine dw_mmin C0 hl.1 tw_lX0_121 (Nat.le_of_ble_eq_true rfl) (Nat.le_of_ble_eq_true rfl) ⟨Nat.zero_le _, Nat.zero_le _⟩ dX0_passOn_49 ?_
    refine dw_mmin C0 hl.1 tw_lX0_121 (Nat.le_of_ble_eq_true rfl) (Nat.le_of_ble_eq_true rfl) ⟨Nat.zero_le _, Nat.zero_le _⟩ dX0_passOn_52 ?_
    refine lv_topi (fun x3 ex3 => ?_)
    have h := dw_nmS ex3 h
    refine lv_istore (lv' := [(6, .int x3), (5, .int x2), (1, .ref (dw_ad Γ 1)), (2, .ref (dw_ad Γ i)), (3, .int a1), (4, .ref (dw_ad Γ (12 + 1 + 2 * a1.toNatClampNeg)))]) hx hb dX0_passOn_55 hl (by decide) rfl (fun ls hl => ?_)
    refine lv_aload_n hx hb dX0_passOn_57 rfl (lv_at hl 3 rfl) ?_
    refine dw_g8_4 (t := (i + 5)) C0 Z hk_i tw_fX0_160 rfl dX0_passOn_58 ?_
    refine lv_iload_n hx hb dX0_passOn_61 rfl (lv_at hl 4 rfl) ?_
    refine lv_iload hx hb dX0_passOn_62 (lv_at hl 0 rfl) ?_
    refine dw_ast C0 Z dw_hA (dw_r8_4 hk_i) (dw_n8_4 hk_i) g1 dX0_passOn_64 (fun μ4 eμ4 H locs Z => ?_)
    have h := dw_nmS eμ4 h
    refine lv_aload_n hx hb dX0_passOn_65 rfl (lv_at hl 3 rfl) ?_
    refine dw_g8_2 (t := (i + 3)) C0 Z hk_i tw_fX0_134 rfl dX0_passOn_66 ?_
    refine lv_iload_n hx hb dX0_passOn_69 rfl (lv_at hl 4 rfl) ?_
    refine lv_dup2_11 hx hb dX0_passOn_70 rfl rfl ?_
    refine dw_ald C0 Z (dw_r8_2 hk_i) (dw_n8_2 hk_i) g1 dX0_passOn_71 ?_
    refine lv_iload hx hb dX0_passOn_72 (lv_at hl 0 rfl) ?_
    refine lv_isub hx hb dX0_passOn_74 ?_
    refine dw_ast C0 Z dw_hA (dw_r8_2 hk_i) (dw_n8_2 hk_i) g1 dX0_passOn_75 (fun μ5 eμ5 H locs Z => ?_)
    have h := dw_nmS eμ5 h
    refine lv_aload hx hb dX0_passOn_76 (lv_at hl 5 rfl) ?_
    refine dw_g5_5 C0 Z (dw_pk dw_kc12 (dw_ok_lt g1)) tw_fX0_163 dX0_passOn_78 ?_
    refine lv_bipush (v := (100 : Int32)) hx hb dX0_passOn_81 (by decide) ?_
    refine lv_isub hx hb dX0_passOn_83 ?_
    refine lv_topi (fun x6 ex6 => ?_)
    have h := dw_nmS ex6 h
    refine lv_istore (lv' := [(7, .int x6), (6, .int x3), (5, .int x2), (1, .ref (dw_ad Γ 1)), (2, .ref (dw_ad Γ i)), (3, .int a1), (4, .ref (dw_ad Γ (12 + 1 + 2 * a1.toNatClampNeg)))]) hx hb dX0_passOn_84 hl (by decide) rfl (fun ls hl => ?_)
    refine lv_aload_n hx hb dX0_passOn_86 rfl (lv_at hl 3 rfl) ?_
    refine dw_g6_2 (t := 11) C0 Z dw_kc1 tw_fX0_81 rfl dX0_passOn_87 ?_
    refine lv_aload hx hb dX0_passOn_90 (lv_at hl 6 rfl) ?_
    refine dw_g5_5 C0 Z (dw_pk dw_kc12 (dw_ok_lt g1)) tw_fX0_163 dX0_passOn_92 ?_
    refine dw_cVi C0 Z dw_hA (dw_lt dw_kc11 (by decide)) (dw_cz4 dw_kc11) rfl (As := [.int (μ5.1 (12 + 1 + 2 * a1.toNatClampNeg) 5)]) (rest := []) (kX4_hasPipe l Γ hj μ5 (μ5.1 (12 + 1 + 2 * a1.toNatClampNeg) 5) rfl) (dw_gV tw_lX0_137 tw_vX4_hasPipe tw_eX4_hasPipe tw_iX4 tw_kX4_hasPipe) dw_hX4_hasPipe ⟨Nat.le_of_ble_eq_true rfl, Nat.le_of_ble_eq_true rfl⟩ ⟨Nat.zero_le _, Nat.zero_le _⟩ hl.1 (Nat.le_of_ble_eq_true rfl) rfl dX0_passOn_95 (fun H locs Z => ?_)
    refine lv_if_eq (tgt := 119) hx hb dX0_passOn_98 (by decide) (fun c7 => ?_) (fun c7 => ?_)
    · have h := dw_ifT c7 h
      refine lv_iload hx hb dX0_passOn_119 (lv_at hl 0 rfl) ?_
      refine dw_cNi (host := RX9) C0 Z dw_hA (As := [.int x6]) (rest := []) (kX9_isDitch l Γ hj μ5 x6 rfl) (by decide +kernel) tw_kX9_isDitch tw_iX9 tw_sX9_isDitch dw_hX9_isDitch ⟨Nat.le_of_ble_eq_true rfl, Nat.le_of_ble_eq_true rfl⟩ ⟨Nat.zero_le _, Nat.zero_le _⟩ hl.1 (Nat.le_of_ble_eq_true rfl) rfl dX0_passOn_121 (fun H locs Z => ?_)
      refine lv_if_eq (tgt := 139) hx hb dX0_passOn_124 (by decide) (fun c8 => ?_) (fun c8 => ?_)
      · have h := dw_ifT c8 h
        obtain rfl := dw_s1 h
        exact dw_vret C0 Z hr hlk dX0_passOn_139
      · have h := dw_ifF c8 h
        refine lv_aload_n hx hb dX0_passOn_127 rfl (lv_at hl 4 rfl) ?_
        refine dw_g8_5 (t := (i + 6)) C0 Z hk_i tw_fX0_169 rfl dX0_passOn_128 ?_
        refine lv_iload hx hb dX0_passOn_131 (lv_at hl 0 rfl) ?_
        refine lv_dup2_11 hx hb dX0_passOn_133 rfl rfl ?_
        obtain ⟨g9, h⟩ := dw_gdS h
        refine dw_ald C0 Z (dw_r8_5 hk_i) (dw_n8_5 hk_i) g9 dX0_passOn_134 ?_
        refine lv_iload hx hb dX0_passOn_135 (lv_at hl 1 rfl) ?_
        refine lv_iadd hx hb dX0_passOn_137 ?_
        refine dw_ast C0 Z dw_hA (dw_r8_5 hk_i) (dw_n8_5 hk_i) g9 dX0_passOn_138 (fun μ10 eμ10 H locs Z => ?_)
        have h := dw_nmS eμ10 h
        obtain rfl := dw_s1 h
        exact dw_vret C0 Z hr hlk dX0_passOn_139
    · have h := dw_ifF c7 h
      refine lv_aload_n hx hb dX0_passOn_101 rfl (lv_at hl 4 rfl) ?_
      refine dw_g8_2 (t := (i + 3)) C0 Z hk_i tw_fX0_134 rfl dX0_passOn_102 ?_
      refine lv_aload hx hb dX0_passOn_105 (lv_at hl 6 rfl) ?_
      refine dw_g5_5 C0 Z (dw_pk dw_kc12 (dw_ok_lt g1)) tw_fX0_163 dX0_passOn_107 ?_
      refine lv_dup2_11 hx hb dX0_passOn_110 rfl rfl ?_
      obtain ⟨g11, h⟩ := dw_gdS h
      refine dw_ald C0 Z (dw_r8_2 hk_i) (dw_n8_2 hk_i) g11 dX0_passOn_111 ?_
      refine lv_iload hx hb dX0_passOn_112 (lv_at hl 1 rfl) ?_
      refine lv_iadd hx hb dX0_passOn_114 ?_
      refine dw_ast C0 Z dw_hA (dw_r8_2 hk_i) (dw_n8_2 hk_i) g11 dX0_passOn_115 (fun μ12 eμ12 H locs Z => ?_)
      have h := dw_nmS eμ12 h
      refine lv_goto (tgt := 139) hx hb dX0_passOn_116 (by decide) ?_
      obtain rfl := dw_s1 h
      exact dw_vret C0 Z hr hlk dX0_passOn_139
  refine lv_if_eq (tgt := 26) hx hb dX0_passOn_19 (by decide) (fun c13 => ?_) (fun c13 => ?_)
  · have h := dw_ifT c13 h
    refine lv_aload_n hx hb dX0_passOn_26 rfl (lv_at hl 1 rfl) ?_
    refine lv_aload_n hx hb dX0_passOn_27 rfl (lv_at hl 2 rfl) ?_
    refine lv_aload_n hx hb dX0_passOn_28 rfl (lv_at hl 3 rfl) ?_
    refine lv_aload hx hb dX0_passOn_29 (lv_at hl 0 rfl) ?_
    obtain ⟨r15, hc14, h⟩ := dw_bdS h
    refine dw_cVi C0 Z dw_hA (dw_lt dw_kc135 (by decide)) (dw_cz0 dw_kc135) rfl (As := [.ref (dw_ad Γ 1), .ref (dw_ad Γ i), .ref (dw_ad Γ (12 + 1 + 2 * a1.toNatClampNeg))]) (rest := []) (kX0_mostInto l Γ hj μ i hk_i (12 + 1 + 2 * a1.toNatClampNeg) (dw_pk dw_kc12 (dw_ok_lt g1)) hc14) (dw_gV tw_lX0_153 tw_vX0_mostInto tw_eX0_mostInto tw_iX0 tw_kX0_mostInto) dw_hX0_mostInto ⟨Nat.le_of_ble_eq_true rfl, Nat.le_of_ble_eq_true rfl⟩ ⟨Nat.zero_le _, Nat.zero_le _⟩ hl.1 (Nat.le_of_ble_eq_true rfl) rfl dX0_passOn_31 (fun H locs Z => ?_)
    exact J34 r15 H locs ls Z (lv_sub hl [2, 3, 4, 0] rfl) h
  · have h := dw_ifF c13 h
    refine lv_iconst (v := (0 : Int32)) hx hb dX0_passOn_22 (by decide) ?_
    refine lv_goto (tgt := 34) hx hb dX0_passOn_23 (by decide) ?_
    exact J34 (0 : Int32) H locs ls Z (lv_sub hl [2, 3, 4, 0] rfl) h
