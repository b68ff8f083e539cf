def sX10_dryMany_4 (μ : dw_M) (x1 : Int32) (x2 : Int32) : Option ((Int32 × Int32) ⊕ ((Int32))) :=
  if (fX10_places μ) ≤ x2 then (
  some (.inr x1))
  else (
  dw_bd (fX10_isReached μ x2) (fun r5 =>
  if r5 = 0 then (
  dw_nm (x1 + (1 : Int32)) (fun x7 =>
  dw_nm (x2 + (1 : Int32)) (fun x8 =>
  some (.inl (x7, x8)))))
  else (
  dw_nm (x1 + (0 : Int32)) (fun x9 =>
  dw_nm (x2 + (1 : Int32)) (fun x10 =>
  some (.inl (x9, x10)))))))
def fX10_dryMany (μ : dw_M) : Option (Int32) :=
  dw_bd (dw_wh (fun v => sX10_dryMany_4 μ v.1 v.2) 1000 ((0 : Int32), (0 : Int32)))
    (fun x11 => some x11)
set_option maxHeartbeats 4000000 in
set_option maxRecDepth 100000 in
theorem kX10_dryMany (l : Launch) (Γ : dw_G) (hj : dw_inj Γ) (μ : dw_M)  {r : Int32} (h : fX10_dryMany μ = some r) : Met l yX10_dryMany (dw_ws yX10_dryMany cX10_dryMany 3 (some .int)) (dw_rm 4 93) (dw_P Γ ([.ref (dw_ad Γ 142)] : List Value) μ) (dw_Qi Γ r μ) 0 0 (dw_A Γ) := by
  refine dw_met (own := RX10) rfl rfl (Nat.le_of_ble_eq_true rfl) hj ?_
  intro p e s m below meth c C0 hr hlk Z ls hl
  have hx := C0.1
  have hb := C0.2.1
  have hl : lv_has ls 3 [(0, .ref (dw_ad Γ 142))] := hl
  suffices key : ∀ (H : Heap) (locs : List Loc), dw_Z Γ (dw_A Γ) s.heap μ H locs → W p l e (dw_rm 4 93) s m ([.ref (dw_ad Γ 142)] : List Value).toArray below meth c H locs 0 0 (MQ below (dw_Qi Γ r μ) ([.ref (dw_ad Γ 142)] : List Value).toArray s 0 0 (dw_A Γ)) (F0 m 0 ls []) from key _ _ Z
  clear Z
  intro H locs Z
  unfold fX10_dryMany at h
  refine lv_iconst (v := (0 : Int32)) hx hb dX10_dryMany_0 (by decide) ?_
  refine lv_istore_n (lv' := [(1, .int (0 : Int32)), (0, .ref (dw_ad Γ 142))]) hx hb dX10_dryMany_1 rfl hl (by decide) rfl (fun ls hl => ?_)
  refine lv_iconst (v := (0 : Int32)) hx hb dX10_dryMany_2 (by decide) ?_
  refine lv_istore_n (lv' := [(2, .int (0 : Int32)), (1, .int (0 : Int32)), (0, .ref (dw_ad Γ 142))]) hx hb dX10_dryMany_3 rfl hl (by decide) rfl (fun ls hl => ?_)
  obtain ⟨kc4, ekc4, h⟩ := dw_bdK h
  have E4 : ∀ (x11 : Int32) (H : Heap) (locs : List Loc) (ls : Array Slot), dw_Z Γ (dw_A Γ) s.heap μ H locs → lv_has ls 3 [(1, .int x11)] → kc4 x11 = some r → W p l e (dw_rm 4 93) s m ([.ref (dw_ad Γ 142)] : List Value).toArray below meth c H locs 0 0 (MQ below (dw_Qi Γ r μ) ([.ref (dw_ad Γ 142)] : List Value).toArray s 0 0 (dw_A Γ)) (F0 m 34 ls []) := by
    intro x11 H locs ls Z hl h
    rw [ekc4] at h
    dsimp only at h
    refine lv_iload_n hx hb dX10_dryMany_34 rfl (lv_at hl 0 rfl) ?_
    obtain rfl := dw_s1 h
    exact dw_iret C0 Z hr hlk dX10_dryMany_35
  have L4 : ∀ (n4 : Nat) (x1 : Int32) (x2 : Int32) (H : Heap) (locs : List Loc) (ls : Array Slot), dw_Z Γ (dw_A Γ) s.heap μ H locs → lv_has ls 3 [(0, .ref (dw_ad Γ 142)), (1, .int x1), (2, .int x2)] → dw_bd (dw_wh (fun v => sX10_dryMany_4 μ v.1 v.2) n4 (x1, x2)) kc4 = some r → W p l e (dw_rm 4 93) s m ([.ref (dw_ad Γ 142)] : List Value).toArray below meth c H locs 0 0 (MQ below (dw_Qi Γ r μ) ([.ref (dw_ad Γ 142)] : List Value).toArray s 0 0 (dw_A Γ)) (F0 m 4 ls []) := by
    clear h
    intro n4
    induction n4 with
    | zero =>
      intro x1 x2 H locs ls Z hl h
      exact (dw_wh0 h).elim
    | succ n4 ih4 =>
      intro x1 x2 H locs ls Z hl h
      obtain ⟨q4, hs, hq4⟩ := dw_whB h
      have h : sX10_dryMany_4 μ x1 x2 = some q4 := hs
      unfold sX10_dryMany_4 at h
      refine lv_iload_n hx hb dX10_dryMany_4 rfl (lv_at hl 2 rfl) ?_
      refine lv_aload_n hx hb dX10_dryMany_5 rfl (lv_at hl 0 rfl) ?_
      refine dw_cVi C0 Z dw_hA (dw_lt dw_kc142 (by decide)) (dw_cz10 dw_kc142) rfl (As := []) (rest := [.int x2]) (kX10_places l Γ hj μ rfl) (dw_gV tw_lX10_25 tw_vX10_places tw_eX10_places tw_iX10 tw_kX10_places) dw_hX10_places ⟨Nat.le_of_ble_eq_true rfl, Nat.le_of_ble_eq_true rfl⟩ ⟨Nat.zero_le _, Nat.zero_le _⟩ hl.1 (Nat.le_of_ble_eq_true rfl) rfl dX10_dryMany_6 (fun H locs Z => ?_)
      refine lv_icmp_ge (tgt := 34) hx hb dX10_dryMany_9 (by decide) (fun c3 => ?_) (fun c3 => ?_)
      · have h := dw_ifT c3 h
        obtain rfl := dw_s1 h
        exact E4 x1 H locs ls Z (lv_sub hl [1] rfl) hq4
      · have h := dw_ifF c3 h
        refine lv_iload_n hx hb dX10_dryMany_12 rfl (lv_at hl 1 rfl) ?_
        refine lv_aload_n hx hb dX10_dryMany_13 rfl (lv_at hl 0 rfl) ?_
        refine lv_iload_n hx hb dX10_dryMany_14 rfl (lv_at hl 2 rfl) ?_
        obtain ⟨r5, hc4, h⟩ := dw_bdS h
        refine dw_cVi C0 Z dw_hA (dw_lt dw_kc142 (by decide)) (dw_cz10 dw_kc142) rfl (As := [.int x2]) (rest := [.int x1]) (kX10_isReached l Γ hj μ x2 hc4) (dw_gV tw_lX10_104 tw_vX10_isReached tw_eX10_isReached tw_iX10 tw_kX10_isReached) dw_hX10_isReached ⟨Nat.le_of_ble_eq_true rfl, Nat.le_of_ble_eq_true rfl⟩ ⟨Nat.zero_le _, Nat.zero_le _⟩ hl.1 (Nat.le_of_ble_eq_true rfl) rfl dX10_dryMany_15 (fun H locs Z => ?_)
        refine lv_if_eq (tgt := 25) hx hb dX10_dryMany_18 (by decide) (fun c6 => ?_) (fun c6 => ?_)
        · have h := dw_ifT c6 h
          refine lv_iconst (v := (1 : Int32)) hx hb dX10_dryMany_25 (by decide) ?_
          refine lv_iadd hx hb dX10_dryMany_26 ?_
          refine lv_topi (fun x7 ex7 => ?_)
          have h := dw_nmS ex7 h
          refine lv_istore_n (lv' := [(1, .int x7), (0, .ref (dw_ad Γ 142)), (2, .int x2)]) hx hb dX10_dryMany_27 rfl hl (by decide) rfl (fun ls hl => ?_)
          obtain ⟨x8, ex8⟩ := dw_eg (x2 + (1 : Int32))
          have h := dw_nmS ex8 h
          refine lv_iinc (v := x8) (lv' := [(2, .int x8), (1, .int x7), (0, .ref (dw_ad Γ 142))]) hx hb dX10_dryMany_28 hl (k := 2) rfl (by rw [ex8]; rfl) (by decide) rfl (fun ls hl => ?_)
          refine lv_goto (tgt := 4) hx hb dX10_dryMany_31 (by decide) ?_
          obtain rfl := dw_s1 h
          exact ih4 x7 x8 H locs ls Z (lv_sub hl [2, 1, 0] rfl) hq4
        · have h := dw_ifF c6 h
          refine lv_iconst (v := (0 : Int32)) hx hb dX10_dryMany_21 (by decide) ?_
          refine lv_goto (tgt := 26) hx hb dX10_dryMany_22 (by decide) ?_
          refine lv_iadd hx hb dX10_dryMany_26 ?_
          refine lv_topi (fun x9 ex9 => ?_)
          have h := dw_nmS ex9 h
          refine lv_istore_n (lv' := [(1, .int x9), (0, .ref (dw_ad Γ 142)), (2, .int x2)]) hx hb dX10_dryMany_27 rfl hl (by decide) rfl (fun ls hl => ?_)
          obtain ⟨x10, ex10⟩ := dw_eg (x2 + (1 : Int32))
          have h := dw_nmS ex10 h
          refine lv_iinc (v := x10) (lv' := [(2, .int x10), (1, .int x9), (0, .ref (dw_ad Γ 142))]) hx hb dX10_dryMany_28 hl (k := 2) rfl (by rw [ex10]; rfl) (by decide) rfl (fun ls hl => ?_)
          refine lv_goto (tgt := 4) hx hb dX10_dryMany_31 (by decide) ?_
          obtain rfl := dw_s1 h
          exact ih4 x9 x10 H locs ls Z (lv_sub hl [2, 1, 0] rfl) hq4
  exact L4 1000 (0 : Int32) (0 : Int32) H locs ls Z (lv_sub hl [2, 1, 0] rfl) h

def fX10_many (μ : dw_M) (a1 : Int32) : Option (Int32) :=
  if a1 = (0 : Int32) then (
  some (fX10_places μ))
  else (
  if a1 = (1 : Int32) then (
  some (μ.1 143 (13 : Int32).toNatClampNeg))
  else (
  if a1 = (2 : Int32) then (
  some (μ.1 143 (7 : Int32).toNatClampNeg))
  else (
  if a1 = (3 : Int32) then (
  dw_bd (fX10_dryMany μ) (fun r6 =>
  some r6))
  else (
  if a1 = (4 : Int32) then (
  dw_bd (fX10_sum μ (220 : Int32)) (fun r9 =>
  some r9))
  else (
  if a1 = (5 : Int32) then (
  dw_bd (fX10_sum μ (260 : Int32)) (fun r12 =>
  some r12))
  else (
  if a1 = (6 : Int32) then (
  dw_bd (fX10_sumOfPipes μ (8 : Int32)) (fun r15 =>
  some r15))
  else (
  some (-1 : Int32))))))))
set_option maxHeartbeats 4000000 in
set_option maxRecDepth 100000 in
theorem kX10_many (l : Launch) (Γ : dw_G) (hj : dw_inj Γ) (μ : dw_M) (a1 : Int32) {r : Int32} (h : fX10_many μ a1 = some r) : Met l yX10_many (dw_ws yX10_many cX10_many 2 (some .int)) (dw_rm 5 115) (dw_P Γ ([.ref (dw_ad Γ 142), .int a1] : List Value) μ) (dw_Qi Γ r μ) 0 0 (dw_A Γ) := by
  refine dw_met (own := RX10) rfl rfl (Nat.le_of_ble_eq_true rfl) hj ?_
  intro p e s m below meth c C0 hr hlk Z ls hl
  have hx := C0.1
  have hb := C0.2.1
  have hl : lv_has ls 2 [(0, .ref (dw_ad Γ 142)), (1, .int a1)] := hl
  suffices key : ∀ (H : Heap) (locs : List Loc), dw_Z Γ (dw_A Γ) s.heap μ H locs → W p l e (dw_rm 5 115) s m ([.ref (dw_ad Γ 142), .int a1] : List Value).toArray below meth c H locs 0 0 (MQ below (dw_Qi Γ r μ) ([.ref (dw_ad Γ 142), .int a1] : List Value).toArray s 0 0 (dw_A Γ)) (F0 m 0 ls []) from key _ _ Z
  clear Z
  intro H locs Z
  unfold fX10_many at h
  refine lv_iload_n hx hb dX10_many_0 rfl (lv_at hl 1 rfl) ?_
  by_cases c1 : a1 = (0 : Int32)
  · have h := dw_ifT c1 h
    refine lv_tableIn (off := 43) (tgt := 44) hx hb dX10_many_1 (by rw [c1]; decide) (by rw [c1]; decide) (by rw [c1]; rfl) (by decide) ?_
    refine lv_aload_n hx hb dX10_many_44 rfl (lv_at hl 0 rfl) ?_
    refine dw_cVi C0 Z dw_hA (dw_lt dw_kc142 (by decide)) (dw_cz10 dw_kc142) rfl (As := []) (rest := []) (kX10_places l Γ hj μ rfl) (dw_gV tw_lX10_25 tw_vX10_places tw_eX10_places tw_iX10 tw_kX10_places) dw_hX10_places ⟨Nat.le_of_ble_eq_true rfl, Nat.le_of_ble_eq_true rfl⟩ ⟨Nat.zero_le _, Nat.zero_le _⟩ hl.1 (Nat.le_of_ble_eq_true rfl) rfl dX10_many_45 (fun H locs Z => ?_)
    obtain rfl := dw_s1 h
    exact dw_iret C0 Z hr hlk dX10_many_48
  have h := dw_ifF c1 h
  by_cases c2 : a1 = (1 : Int32)
  · have h := dw_ifT c2 h
    refine lv_tableIn (off := 48) (tgt := 49) hx hb dX10_many_1 (by rw [c2]; decide) (by rw [c2]; decide) (by rw [c2]; rfl) (by decide) ?_
    refine lv_aload_n hx hb dX10_many_49 rfl (lv_at hl 0 rfl) ?_
    refine dw_g10_0 (t := 143) C0 Z dw_kc142 tw_fX10_7 rfl dX10_many_50 ?_
    refine lv_bipush (v := (13 : Int32)) hx hb dX10_many_53 (by decide) ?_
    refine dw_ald C0 Z dw_kc143 dw_lc143 (by decide) dX10_many_55 ?_
    obtain rfl := dw_s1 h
    exact dw_iret C0 Z hr hlk dX10_many_56
  have h := dw_ifF c2 h
  by_cases c3 : a1 = (2 : Int32)
  · have h := dw_ifT c3 h
    refine lv_tableIn (off := 56) (tgt := 57) hx hb dX10_many_1 (by rw [c3]; decide) (by rw [c3]; decide) (by rw [c3]; rfl) (by decide) ?_
    refine lv_aload_n hx hb dX10_many_57 rfl (lv_at hl 0 rfl) ?_
    refine dw_g10_0 (t := 143) C0 Z dw_kc142 tw_fX10_7 rfl dX10_many_58 ?_
    refine lv_bipush (v := (7 : Int32)) hx hb dX10_many_61 (by decide) ?_
    refine dw_ald C0 Z dw_kc143 dw_lc143 (by decide) dX10_many_63 ?_
    obtain rfl := dw_s1 h
    exact dw_iret C0 Z hr hlk dX10_many_64
  have h := dw_ifF c3 h
  by_cases c4 : a1 = (3 : Int32)
  · have h := dw_ifT c4 h
    refine lv_tableIn (off := 64) (tgt := 65) hx hb dX10_many_1 (by rw [c4]; decide) (by rw [c4]; decide) (by rw [c4]; rfl) (by decide) ?_
    refine lv_aload_n hx hb dX10_many_65 rfl (lv_at hl 0 rfl) ?_
    obtain ⟨r6, hc5, h⟩ := dw_bdS h
    refine dw_cVi C0 Z dw_hA (dw_lt dw_kc142 (by decide)) (dw_cz10 dw_kc142) rfl (As := []) (rest := []) (kX10_dryMany l Γ hj μ hc5) (dw_gV tw_lX10_113 tw_vX10_dryMany tw_eX10_dryMany tw_iX10 tw_kX10_dryMany) dw_hX10_dryMany ⟨Nat.le_of_ble_eq_true rfl, Nat.le_of_ble_eq_true rfl⟩ ⟨Nat.zero_le _, Nat.zero_le _⟩ hl.1 (Nat.le_of_ble_eq_true rfl) rfl dX10_many_66 (fun H locs Z => ?_)
    obtain rfl := dw_s1 h
    exact dw_iret C0 Z hr hlk dX10_many_69
  have h := dw_ifF c4 h
  by_cases c7 : a1 = (4 : Int32)
  · have h := dw_ifT c7 h
    refine lv_tableIn (off := 69) (tgt := 70) hx hb dX10_many_1 (by rw [c7]; decide) (by rw [c7]; decide) (by rw [c7]; rfl) (by decide) ?_
    refine lv_aload_n hx hb dX10_many_70 rfl (lv_at hl 0 rfl) ?_
    refine lv_sipush (v := (220 : Int32)) hx hb dX10_many_71 (by decide) ?_
    obtain ⟨r9, hc8, h⟩ := dw_bdS h
    refine dw_cVi C0 Z dw_hA (dw_lt dw_kc142 (by decide)) (dw_cz10 dw_kc142) rfl (As := [.int (220 : Int32)]) (rest := []) (kX10_sum l Γ hj μ (220 : Int32) hc8) (dw_gV tw_lX10_107 tw_vX10_sum tw_eX10_sum tw_iX10 tw_kX10_sum) dw_hX10_sum ⟨Nat.le_of_ble_eq_true rfl, Nat.le_of_ble_eq_true rfl⟩ ⟨Nat.zero_le _, Nat.zero_le _⟩ hl.1 (Nat.le_of_ble_eq_true rfl) rfl dX10_many_74 (fun H locs Z => ?_)
    obtain rfl := dw_s1 h
    exact dw_iret C0 Z hr hlk dX10_many_77
  have h := dw_ifF c7 h
  by_cases c10 : a1 = (5 : Int32)
  · have h := dw_ifT c10 h
    refine lv_tableIn (off := 77) (tgt := 78) hx hb dX10_many_1 (by rw [c10]; decide) (by rw [c10]; decide) (by rw [c10]; rfl) (by decide) ?_
    refine lv_aload_n hx hb dX10_many_78 rfl (lv_at hl 0 rfl) ?_
    refine lv_sipush (v := (260 : Int32)) hx hb dX10_many_79 (by decide) ?_
    obtain ⟨r12, hc11, h⟩ := dw_bdS h
    refine dw_cVi C0 Z dw_hA (dw_lt dw_kc142 (by decide)) (dw_cz10 dw_kc142) rfl (As := [.int (260 : Int32)]) (rest := []) (kX10_sum l Γ hj μ (260 : Int32) hc11) (dw_gV tw_lX10_107 tw_vX10_sum tw_eX10_sum tw_iX10 tw_kX10_sum) dw_hX10_sum ⟨Nat.le_of_ble_eq_true rfl, Nat.le_of_ble_eq_true rfl⟩ ⟨Nat.zero_le _, Nat.zero_le _⟩ hl.1 (Nat.le_of_ble_eq_true rfl) rfl dX10_many_82 (fun H locs Z => ?_)
    obtain rfl := dw_s1 h
    exact dw_iret C0 Z hr hlk dX10_many_85
  have h := dw_ifF c10 h
  by_cases c13 : a1 = (6 : Int32)
  · have h := dw_ifT c13 h
    refine lv_tableIn (off := 85) (tgt := 86) hx hb dX10_many_1 (by rw [c13]; decide) (by rw [c13]; decide) (by rw [c13]; rfl) (by decide) ?_
    refine lv_aload_n hx hb dX10_many_86 rfl (lv_at hl 0 rfl) ?_
    refine lv_bipush (v := (8 : Int32)) hx hb dX10_many_87 (by decide) ?_
    obtain ⟨r15, hc14, h⟩ := dw_bdS h
    refine dw_cVi C0 Z dw_hA (dw_lt dw_kc142 (by decide)) (dw_cz10 dw_kc142) rfl (As := [.int (8 : Int32)]) (rest := []) (kX10_sumOfPipes l Γ hj μ (8 : Int32) hc14) (dw_gV tw_lX10_110 tw_vX10_sumOfPipes tw_eX10_sumOfPipes tw_iX10 tw_kX10_sumOfPipes) dw_hX10_sumOfPipes ⟨Nat.le_of_ble_eq_true rfl, Nat.le_of_ble_eq_true rfl⟩ ⟨Nat.zero_le _, Nat.zero_le _⟩ hl.1 (Nat.le_of_ble_eq_true rfl) rfl dX10_many_89 (fun H locs Z => ?_)
    obtain rfl := dw_s1 h
    exact dw_iret C0 Z hr hlk dX10_many_92
  have h := dw_ifF c13 h
  have tc1 := dw_ti c1 (k := 0) (by decide)
  have tc2 := dw_ti c2 (k := 1) (by decide)
  have tc3 := dw_ti c3 (k := 2) (by decide)
  have tc4 := dw_ti c4 (k := 3) (by decide)
  have tc7 := dw_ti c7 (k := 4) (by decide)
  have tc10 := dw_ti c10 (k := 5) (by decide)
  have tc13 := dw_ti c13 (k := 6) (by decide)
  refine lv_tableOut (tgt := 93) hx hb dX10_many_1 (by omega) (by decide) ?_
  refine lv_iconst (v := (-1 : Int32)) hx hb dX10_many_93 (by decide) ?_
  obtain rfl := dw_s1 h
  exact dw_iret C0 Z hr hlk dX10_many_94

def sX10_dry_4 (μ : dw_M) (x1 : Int32) (x2 : Int32) : Option ((Int32 × Int32) ⊕ ((Unit) ⊕ (Int32))) :=
  if (fX10_places μ) ≤ x2 then (
  some (.inr (.inl ())))
  else (
  dw_bd (fX10_isReached μ x2) (fun r5 =>
  if r5 = 0 then (
  if x1 = 0 then (
  some (.inr (.inr x2)))
  else (
  dw_nm (x1 + (-1 : Int32)) (fun x9 =>
  dw_nm (x2 + (1 : Int32)) (fun x10 =>
  some (.inl (x9, x10))))))
  else (
  dw_nm (x2 + (1 : Int32)) (fun x7 =>
  some (.inl (x1, x7))))))
def fX10_dry (μ : dw_M) (a1 : Int32) : Option (Int32) :=
  dw_bd (dw_wh (fun v => sX10_dry_4 μ v.1 v.2) 1000 (a1, (0 : Int32)))
    (Sum.elim (fun _ => some (-6 : Int32)) (fun r => some r))
set_option maxHeartbeats 4000000 in
set_option maxRecDepth 100000 in
theorem kX10_dry (l : Launch) (Γ : dw_G) (hj : dw_inj Γ) (μ : dw_M) (a1 : Int32) {r : Int32} (h : fX10_dry μ a1 = some r) : Met l yX10_dry (dw_ws yX10_dry cX10_dry 4 (some .int)) (dw_rm 4 93) (dw_P Γ ([.ref (dw_ad Γ 142), .int a1] : List Value) μ) (dw_Qi Γ r μ) 0 0 (dw_A Γ) := by
  refine dw_met (own := RX10) rfl rfl (Nat.le_of_ble_eq_true rfl) hj ?_
  intro p e s m below meth c C0 hr hlk Z ls hl
  have hx := C0.1
  have hb := C0.2.1
  have hl : lv_has ls 4 [(0, .ref (dw_ad Γ 142)), (1, .int a1)] := hl
  suffices key : ∀ (H : Heap) (locs : List Loc), dw_Z Γ (dw_A Γ) s.heap μ H locs → W p l e (dw_rm 4 93) s m ([.ref (dw_ad Γ 142), .int a1] : List Value).toArray below meth c H locs 0 0 (MQ below (dw_Qi Γ r μ) ([.ref (dw_ad Γ 142), .int a1] : List Value).toArray s 0 0 (dw_A Γ)) (F0 m 0 ls []) from key _ _ Z
  clear Z
  intro H locs Z
  unfold fX10_dry at h
  refine lv_iload_n hx hb dX10_dry_0 rfl (lv_at hl 1 rfl) ?_
  refine lv_istore_n (lv' := [(2, .int a1), (0, .ref (dw_ad Γ 142)), (1, .int a1)]) hx hb dX10_dry_1 rfl hl (by decide) rfl (fun ls hl => ?_)
  refine lv_iconst (v := (0 : Int32)) hx hb dX10_dry_2 (by decide) ?_
  refine lv_istore_n (lv' := [(3, .int (0 : Int32)), (2, .int a1), (0, .ref (dw_ad Γ 142)), (1, .int a1)]) hx hb dX10_dry_3 rfl hl (by decide) rfl (fun ls hl => ?_)
  obtain ⟨kc4, ekc4, h⟩ := dw_bdK h
  have E4 : ∀ (H : Heap) (locs : List Loc) (ls : Array Slot), dw_Z Γ (dw_A Γ) s.heap μ H locs → lv_has ls 4 [] → kc4 (.inl ()) = some r → W p l e (dw_rm 4 93) s m ([.ref (dw_ad Γ 142), .int a1] : List Value).toArray below meth c H locs 0 0 (MQ below (dw_Qi Γ r μ) ([.ref (dw_ad Γ 142), .int a1] : List Value).toArray s 0 0 (dw_A Γ)) (F0 m 35 ls []) := by
    intro  H locs ls Z hl h
    rw [ekc4] at h
    dsimp only [Sum.elim] at h
    refine lv_bipush (v := (-6 : Int32)) hx hb dX10_dry_35 (by decide) ?_
    obtain rfl := dw_s1 h
    exact dw_iret C0 Z hr hlk dX10_dry_37
  have L4 : ∀ (n4 : Nat) (x1 : Int32) (x2 : Int32) (H : Heap) (locs : List Loc) (ls : Array Slot), dw_Z Γ (dw_A Γ) s.heap μ H locs → lv_has ls 4 [(0, .ref (dw_ad Γ 142)), (2, .int x1), (3, .int x2)] → dw_bd (dw_wh (fun v => sX10_dry_4 μ v.1 v.2) n4 (x1, x2)) kc4 = some r → W p l e (dw_rm 4 93) s m ([.ref (dw_ad Γ 142), .int a1] : List Value).toArray below meth c H locs 0 0 (MQ below (dw_Qi Γ r μ) ([.ref (dw_ad Γ 142), .int a1] : List Value).toArray s 0 0 (dw_A Γ)) (F0 m 4 ls []) := by
    clear h
    intro n4
    induction n4 with
    | zero =>
      intro x1 x2 H locs ls Z hl h
      exact (dw_wh0 h).elim
    | succ n4 ih4 =>
      intro x1 x2 H locs ls Z hl h
      obtain ⟨q4, hs, hq4⟩ := dw_whB h
      have h : sX10_dry_4 μ x1 x2 = some q4 := hs
      unfold sX10_dry_4 at h
      refine lv_iload_n hx hb dX10_dry_4 rfl (lv_at hl 2 rfl) ?_
      refine lv_aload_n hx hb dX10_dry_5 rfl (lv_at hl 0 rfl) ?_
      refine dw_cVi C0 Z dw_hA (dw_lt dw_kc142 (by decide)) (dw_cz10 dw_kc142) rfl (As := []) (rest := [.int x2]) (kX10_places l Γ hj μ rfl) (dw_gV tw_lX10_25 tw_vX10_places tw_eX10_places tw_iX10 tw_kX10_places) dw_hX10_places ⟨Nat.le_of_ble_eq_true rfl, Nat.le_of_ble_eq_true rfl⟩ ⟨Nat.zero_le _, Nat.zero_le _⟩ hl.1 (Nat.le_of_ble_eq_true rfl) rfl dX10_dry_6 (fun H locs Z => ?_)
      refine lv_icmp_ge (tgt := 35) hx hb dX10_dry_9 (by decide) (fun c3 => ?_) (fun c3 => ?_)
      · have h := dw_ifT c3 h
        obtain rfl := dw_s1 h
        exact E4  H locs ls Z (lv_sub hl [] rfl) hq4
      · have h := dw_ifF c3 h
        refine lv_aload_n hx hb dX10_dry_12 rfl (lv_at hl 0 rfl) ?_
        refine lv_iload_n hx hb dX10_dry_13 rfl (lv_at hl 2 rfl) ?_
        obtain ⟨r5, hc4, h⟩ := dw_bdS h
        refine dw_cVi C0 Z dw_hA (dw_lt dw_kc142 (by decide)) (dw_cz10 dw_kc142) rfl (As := [.int x2]) (rest := []) (kX10_isReached l Γ hj μ x2 hc4) (dw_gV tw_lX10_104 tw_vX10_isReached tw_eX10_isReached tw_iX10 tw_kX10_isReached) dw_hX10_isReached ⟨Nat.le_of_ble_eq_true rfl, Nat.le_of_ble_eq_true rfl⟩ ⟨Nat.zero_le _, Nat.zero_le _⟩ hl.1 (Nat.le_of_ble_eq_true rfl) rfl dX10_dry_14 (fun H locs Z => ?_)
        refine lv_if_ne (tgt := 29) hx hb dX10_dry_17 (by decide) (fun c6 => ?_) (fun c6 => ?_)
        · have h := dw_ifF c6 h
          obtain ⟨x7, ex7⟩ := dw_eg (x2 + (1 : Int32))
          have h := dw_nmS ex7 h
          refine lv_iinc (v := x7) (lv' := [(3, .int x7), (0, .ref (dw_ad Γ 142)), (2, .int x1)]) hx hb dX10_dry_29 hl (k := 2) rfl (by rw [ex7]; rfl) (by decide) rfl (fun ls hl => ?_)
          refine lv_goto (tgt := 4) hx hb dX10_dry_32 (by decide) ?_
          obtain rfl := dw_s1 h
          exact ih4 x1 x7 H locs ls Z (lv_sub hl [1, 2, 0] rfl) hq4
        · have h := dw_ifT c6 h
          refine lv_iload_n hx hb dX10_dry_20 rfl (lv_at hl 1 rfl) ?_
          refine lv_if_ne (tgt := 26) hx hb dX10_dry_21 (by decide) (fun c8 => ?_) (fun c8 => ?_)
          · have h := dw_ifF c8 h
            obtain ⟨x9, ex9⟩ := dw_eg (x1 + (-1 : Int32))
            have h := dw_nmS ex9 h
            refine lv_iinc (v := x9) (lv' := [(2, .int x9), (0, .ref (dw_ad Γ 142)), (3, .int x2)]) hx hb dX10_dry_26 hl (k := 1) rfl (by rw [ex9]; rfl) (by decide) rfl (fun ls hl => ?_)
            obtain ⟨x10, ex10⟩ := dw_eg (x2 + (1 : Int32))
            have h := dw_nmS ex10 h
            refine lv_iinc (v := x10) (lv' := [(3, .int x10), (2, .int x9), (0, .ref (dw_ad Γ 142))]) hx hb dX10_dry_29 hl (k := 2) rfl (by rw [ex10]; rfl) (by decide) rfl (fun ls hl => ?_)
            refine lv_goto (tgt := 4) hx hb dX10_dry_32 (by decide) ?_
            obtain rfl := dw_s1 h
            exact ih4 x9 x10 H locs ls Z (lv_sub hl [2, 1, 0] rfl) hq4
          · have h := dw_ifT c8 h
            refine lv_iload_n hx hb dX10_dry_24 rfl (lv_at hl 2 rfl) ?_
            obtain rfl := dw_s1 h
            have h := hq4
            dsimp only at h
            rw [ekc4] at h
            dsimp only [Sum.elim] at h
            obtain rfl := dw_s1 h
            exact dw_iret C0 Z hr hlk dX10_dry_25
  exact L4 1000 a1 (0 : Int32) H locs ls Z (lv_sub hl [2, 1, 0] rfl) h

def fX10_set (μ : dw_M) (a1 : Int32) (a2 : Int32) (a3 : Int32) : Option (Int32 × dw_M) :=
  if (fX10_isPlace μ a2) = 0 then (
  some ((-1 : Int32), μ))
  else (
  dw_gd (dw_ok (a1 + a2) 800) (
  dw_jm (fun (x3 : Int32) =>
  dw_jm (fun (x4 : Int32) =>
  if a3 = 0 then (
  dw_nm (dw_st μ 143 (a1 + a2).toNatClampNeg (0 : Int32)) (fun μ6 =>
  some (x4, μ6)))
  else (
  dw_nm (dw_st μ 143 (a1 + a2).toNatClampNeg (1 : Int32)) (fun μ7 =>
  some (x4, μ7)))) (fun k36 =>
  if x3 = a3 then (
  k36 (0 : Int32))
  else (
  k36 (1 : Int32)))) (fun k27 =>
  if (μ.1 143 (a1 + a2).toNatClampNeg) = (1 : Int32) then (
  k27 (1 : Int32))
  else (
  k27 (0 : Int32)))))
set_option maxHeartbeats 4000000 in
set_option maxRecDepth 100000 in
theorem kX10_set (l : Launch) (Γ : dw_G) (hj : dw_inj Γ) (μ : dw_M) (a1 : Int32) (a2 : Int32) (a3 : Int32) {r : Int32} {ν : dw_M} (h : fX10_set μ a1 a2 a3 = some (r, ν)) : Met l yX10_set (dw_ws yX10_set cX10_set 5 (some .int)) (dw_rm 2 43) (dw_P Γ ([.ref (dw_ad Γ 142), .int a1, .int a2, .int a3] : List Value) μ) (dw_Qi Γ r ν) 0 0 (dw_A Γ) := by
  refine dw_met (own := RX10) rfl rfl (Nat.le_of_ble_eq_true rfl) hj ?_
  intro p e s m below meth c C0 hr hlk Z ls hl
  have hx := C0.1
  have hb := C0.2.1
  have hl : lv_has ls 5 [(0, .ref (dw_ad Γ 142)), (1, .int a1), (2, .int a2), (3, .int a3)] := hl
  suffices key : ∀ (H : Heap) (locs : List Loc), dw_Z Γ (dw_A Γ) s.heap μ H locs → W p l e (dw_rm 2 43) s m ([.ref (dw_ad Γ 142), .int a1, .int a2, .int a3] : List Value).toArray below meth c H locs 0 0 (MQ below (dw_Qi Γ r ν) ([.ref (dw_ad Γ 142), .int a1, .int a2, .int a3] : List Value).toArray s 0 0 (dw_A Γ)) (F0 m 0 ls []) from key _ _ Z
  clear Z
  intro H locs Z
  unfold fX10_set at h
  refine lv_aload_n hx hb dX10_set_0 rfl (lv_at hl 0 rfl) ?_
  refine lv_iload_n hx hb dX10_set_1 rfl (lv_at hl 2 rfl) ?_
  refine dw_cVi C0 Z dw_hA (dw_lt dw_kc142 (by decide)) (dw_cz10 dw_kc142) rfl (As := [.int a2]) (rest := []) (kX10_isPlace l Γ hj μ a2 rfl) (dw_gV tw_lX10_33 tw_vX10_isPlace tw_eX10_isPlace tw_iX10 tw_kX10_isPlace) dw_hX10_isPlace ⟨Nat.le_of_ble_eq_true rfl, Nat.le_of_ble_eq_true rfl⟩ ⟨Nat.zero_le _, Nat.zero_le _⟩ hl.1 (Nat.le_of_ble_eq_true rfl) rfl dX10_set_2 (fun H locs Z => ?_)
  refine lv_if_ne (tgt := 10) hx hb dX10_set_5 (by decide) (fun c1 => ?_) (fun c1 => ?_)
  · have h := dw_ifF c1 h
    refine lv_aload_n hx hb dX10_set_10 rfl (lv_at hl 0 rfl) ?_
    refine dw_g10_0 (t := 143) C0 Z dw_kc142 tw_fX10_7 rfl dX10_set_11 ?_
    refine lv_iload_n hx hb dX10_set_14 rfl (lv_at hl 1 rfl) ?_
    refine lv_iload_n hx hb dX10_set_15 rfl (lv_at hl 2 rfl) ?_
    refine lv_iadd hx hb dX10_set_16 ?_
    obtain ⟨g2, h⟩ := dw_gdS h
    refine dw_ald C0 Z dw_kc143 dw_lc143 g2 dX10_set_17 ?_
    refine lv_iconst (v := (1 : Int32)) hx hb dX10_set_18 (by decide) ?_
    obtain ⟨k27, ek27, h⟩ := dw_jnS h
    have J27 : ∀ (x3 : Int32) (H : Heap) (locs : List Loc) (ls : Array Slot), dw_Z Γ (dw_A Γ) s.heap μ H locs → lv_has ls 5 [(0, .ref (dw_ad Γ 142)), (1, .int a1), (2, .int a2), (3, .int a3)] → k27 x3 = some (r, ν) → W p l e (dw_rm 2 43) s m ([.ref (dw_ad Γ 142), .int a1, .int a2, .int a3] : List Value).toArray below meth c H locs 0 0 (MQ below (dw_Qi Γ r ν) ([.ref (dw_ad Γ 142), .int a1, .int a2, .int a3] : List Value).toArray s 0 0 (dw_A Γ)) (F0 m 27 ls [.int x3]) := by
      clear h
      intro x3 H locs ls Z hl h
      rw [ek27] at h
      dsimp only at h
      refine lv_iload_n hx hb dX10_set_27 rfl (lv_at hl 3 rfl) ?_
      obtain ⟨k36, ek36, h⟩ := dw_jnS h
      have J36 : ∀ (x4 : Int32) (H : Heap) (locs : List Loc) (ls : Array Slot), dw_Z Γ (dw_A Γ) s.heap μ H locs → lv_has ls 5 [(0, .ref (dw_ad Γ 142)), (1, .int a1), (2, .int a2), (3, .int a3)] → k36 x4 = some (r, ν) → W p l e (dw_rm 2 43) s m ([.ref (dw_ad Γ 142), .int a1, .int a2, .int a3] : List Value).toArray below meth c H locs 0 0 (MQ below (dw_Qi Γ r ν) ([.ref (dw_ad Γ 142), .int a1, .int a2, .int a3] : List Value).toArray s 0 0 (dw_A Γ)) (F0 m 36 ls [.int x4]) := by
        clear h
        intro x4 H locs ls Z hl h
        rw [ek36] at h
        dsimp only at h
        refine lv_istore (lv' := [(4, .int x4), (0, .ref (dw_ad Γ 142)), (1, .int a1), (2, .int a2), (3, .int a3)]) hx hb dX10_set_36 hl (by decide) rfl (fun ls hl => ?_)
        refine lv_aload_n hx hb dX10_set_38 rfl (lv_at hl 1 rfl) ?_
        refine dw_g10_0 (t := 143) C0 Z dw_kc142 tw_fX10_7 rfl dX10_set_39 ?_
        refine lv_iload_n hx hb dX10_set_42 rfl (lv_at hl 2 rfl) ?_
        refine lv_iload_n hx hb dX10_set_43 rfl (lv_at hl 3 rfl) ?_
        refine lv_iadd hx hb dX10_set_44 ?_
        refine lv_iload_n hx hb dX10_set_45 rfl (lv_at hl 4 rfl) ?_
        refine lv_if_eq (tgt := 53) hx hb dX10_set_46 (by decide) (fun c5 => ?_) (fun c5 => ?_)
        · have h := dw_ifT c5 h
          refine lv_iconst (v := (0 : Int32)) hx hb dX10_set_53 (by decide) ?_
          refine dw_ast C0 Z dw_hA dw_kc143 dw_lc143 g2 dX10_set_54 (fun μ6 eμ6 H locs Z => ?_)
          have h := dw_nmS eμ6 h
          refine lv_iload hx hb dX10_set_55 (lv_at hl 0 rfl) ?_
          obtain ⟨rfl, rfl⟩ := dw_s2 h
          exact dw_iret C0 Z hr hlk dX10_set_57
        · have h := dw_ifF c5 h
          refine lv_iconst (v := (1 : Int32)) hx hb dX10_set_49 (by decide) ?_
          refine lv_goto (tgt := 54) hx hb dX10_set_50 (by decide) ?_
          refine dw_ast C0 Z dw_hA dw_kc143 dw_lc143 g2 dX10_set_54 (fun μ7 eμ7 H locs Z => ?_)
          have h := dw_nmS eμ7 h
          refine lv_iload hx hb dX10_set_55 (lv_at hl 0 rfl) ?_
          obtain ⟨rfl, rfl⟩ := dw_s2 h
          exact dw_iret C0 Z hr hlk dX10_set_57
      refine lv_icmp_ne (tgt := 35) hx hb dX10_set_28 (by decide) (fun c8 => ?_) (fun c8 => ?_)
      · have h := dw_ifF c8 h
        refine lv_iconst (v := (1 : Int32)) hx hb dX10_set_35 (by decide) ?_
        exact J36 (1 : Int32) H locs ls Z (lv_sub hl [0, 1, 2, 3] rfl) h
      · have h := dw_ifT c8 h
        refine lv_iconst (v := (0 : Int32)) hx hb dX10_set_31 (by decide) ?_
        refine lv_goto (tgt := 36) hx hb dX10_set_32 (by decide) ?_
        exact J36 (0 : Int32) H locs ls Z (lv_sub hl [0, 1, 2, 3] rfl) h
    refine lv_icmp_ne (tgt := 26) hx hb dX10_set_19 (by decide) (fun c9 => ?_) (fun c9 => ?_)
    · have h := dw_ifF c9 h
      refine lv_iconst (v := (0 : Int32)) hx hb dX10_set_26 (by decide) ?_
      exact J27 (0 : Int32) H locs ls Z (lv_sub hl [0, 1, 2, 3] rfl) h
    · have h := dw_ifT c9 h
      refine lv_iconst (v := (1 : Int32)) hx hb dX10_set_22 (by decide) ?_
      refine lv_goto (tgt := 27) hx hb dX10_set_23 (by decide) ?_
      exact J27 (1 : Int32) H locs ls Z (lv_sub hl [0, 1, 2, 3] rfl) h
  · have h := dw_ifT c1 h
    refine lv_iconst (v := (-1 : Int32)) hx hb dX10_set_8 (by decide) ?_
    obtain ⟨rfl, rfl⟩ := dw_s2 h
    exact dw_iret C0 Z hr hlk dX10_set_9

def fX10_mark (μ : dw_M) (a1 : Int32) (a2 : Int32) : Option (Int32 × dw_M) :=
  dw_b2 (fX10_set μ (220 : Int32) a1 a2) (fun r2 μ3 =>
  some (r2, μ3))
set_option maxHeartbeats 4000000 in
set_option maxRecDepth 100000 in
theorem kX10_mark (l : Launch) (Γ : dw_G) (hj : dw_inj Γ) (μ : dw_M) (a1 : Int32) (a2 : Int32) {r : Int32} {ν : dw_M} (h : fX10_mark μ a1 a2 = some (r, ν)) : Met l yX10_mark (dw_ws yX10_mark cX10_mark 3 (some .int)) (dw_rm 3 67) (dw_P Γ ([.ref (dw_ad Γ 142), .int a1, .int a2] : List Value) μ) (dw_Qi Γ r ν) 0 0 (dw_A Γ) := by
  refine dw_met (own := RX10) rfl rfl (Nat.le_of_ble_eq_true rfl) hj ?_
  intro p e s m below meth c C0 hr hlk Z ls hl
  have hx := C0.1
  have hb := C0.2.1
  have hl : lv_has ls 3 [(0, .ref (dw_ad Γ 142)), (1, .int a1), (2, .int a2)] := hl
  suffices key : ∀ (H : Heap) (locs : List Loc), dw_Z Γ (dw_A Γ) s.heap μ H locs → W p l e (dw_rm 3 67) s m ([.ref (dw_ad Γ 142), .int a1, .int a2] : List Value).toArray below meth c H locs 0 0 (MQ below (dw_Qi Γ r ν) ([.ref (dw_ad Γ 142), .int a1, .int a2] : List Value).toArray s 0 0 (dw_A Γ)) (F0 m 0 ls []) from key _ _ Z
  clear Z
  intro H locs Z
  unfold fX10_mark at h
  refine lv_aload_n hx hb dX10_mark_0 rfl (lv_at hl 0 rfl) ?_
  refine lv_sipush (v := (220 : Int32)) hx hb dX10_mark_1 (by decide) ?_
  refine lv_iload_n hx hb dX10_mark_4 rfl (lv_at hl 1 rfl) ?_
  refine lv_iload_n hx hb dX10_mark_5 rfl (lv_at hl 2 rfl) ?_
  obtain ⟨r2, μ3, hc1, h⟩ := dw_b2S h
  refine dw_cVi C0 Z dw_hA (dw_lt dw_kc142 (by decide)) (dw_cz10 dw_kc142) rfl (As := [.int (220 : Int32), .int a1, .int a2]) (rest := []) (kX10_set l Γ hj μ (220 : Int32) a1 a2 hc1) (dw_gV tw_lX10_116 tw_vX10_set tw_eX10_set tw_iX10 tw_kX10_set) dw_hX10_set ⟨Nat.le_of_ble_eq_true rfl, Nat.le_of_ble_eq_true rfl⟩ ⟨Nat.zero_le _, Nat.zero_le _⟩ hl.1 (Nat.le_of_ble_eq_true rfl) rfl dX10_mark_6 (fun H locs Z => ?_)
  obtain ⟨rfl, rfl⟩ := dw_s2 h
  exact dw_iret C0 Z hr hlk dX10_mark_9

def fX10_cost (μ : dw_M) (a1 : Int32) (a2 : Int32) : Option (Int32) :=
  dw_bd (fX10_rowOf μ a1) (fun r2 =>
  dw_bd (fX10_rowOf μ a2) (fun r4 =>
  dw_bd (fX10_columnOf μ a1) (fun r6 =>
  dw_bd (fX10_columnOf μ a2) (fun r8 =>
  dw_gd (dw_ok ((20 : Int32) + a1) 800) (
  dw_gd (dw_ok ((20 : Int32) + a2) 800) (
  some (((10 : Int32) * ((fX10_size (r2 - r4)) + (fX10_size (r6 - r8)))) + (fX10_size ((μ.1 143 ((20 : Int32) + a1).toNatClampNeg) - (μ.1 143 ((20 : Int32) + a2).toNatClampNeg))))))))))
set_option maxHeartbeats 4000000 in
set_option maxRecDepth 100000 in
theorem kX10_cost (l : Launch) (Γ : dw_G) (hj : dw_inj Γ) (μ : dw_M) (a1 : Int32) (a2 : Int32) {r : Int32} (h : fX10_cost μ a1 a2 = some r) : Met l yX10_cost (dw_ws yX10_cost cX10_cost 3 (some .int)) (dw_rm 1 21) (dw_P Γ ([.ref (dw_ad Γ 142), .int a1, .int a2] : List Value) μ) (dw_Qi Γ r μ) 0 0 (dw_A Γ) := by
  refine dw_met (own := RX10) rfl rfl (Nat.le_of_ble_eq_true rfl) hj ?_
  intro p e s m below meth c C0 hr hlk Z ls hl
  have hx := C0.1
  have hb := C0.2.1
  have hl : lv_has ls 3 [(0, .ref (dw_ad Γ 142)), (1, .int a1), (2, .int a2)] := hl
  suffices key : ∀ (H : Heap) (locs : List Loc), dw_Z Γ (dw_A Γ) s.heap μ H locs → W p l e (dw_rm 1 21) s m ([.ref (dw_ad Γ 142), .int a1, .int a2] : List Value).toArray below meth c H locs 0 0 (MQ below (dw_Qi Γ r μ) ([.ref (dw_ad Γ 142), .int a1, .int a2] : List Value).toArray s 0 0 (dw_A Γ)) (F0 m 0 ls []) from key _ _ Z
  clear Z
  intro H locs Z
  unfold fX10_cost at h
  refine lv_bipush (v := (10 : Int32)) hx hb dX10_cost_0 (by decide) ?_
  refine lv_aload_n hx hb dX10_cost_2 rfl (lv_at hl 0 rfl) ?_
  refine lv_iload_n hx hb dX10_cost_3 rfl (lv_at hl 1 rfl) ?_
  obtain ⟨r2, hc1, h⟩ := dw_bdS h
  refine dw_cVi C0 Z dw_hA (dw_lt dw_kc142 (by decide)) (dw_cz10 dw_kc142) rfl (As := [.int a1]) (rest := [.int (10 : Int32)]) (kX10_rowOf l Γ hj μ a1 hc1) (dw_gV tw_lX10_37 tw_vX10_rowOf tw_eX10_rowOf tw_iX10 tw_kX10_rowOf) dw_hX10_rowOf ⟨Nat.le_of_ble_eq_true rfl, Nat.le_of_ble_eq_true rfl⟩ ⟨Nat.zero_le _, Nat.zero_le _⟩ hl.1 (Nat.le_of_ble_eq_true rfl) rfl dX10_cost_4 (fun H locs Z => ?_)
  refine lv_aload_n hx hb dX10_cost_7 rfl (lv_at hl 0 rfl) ?_
  refine lv_iload_n hx hb dX10_cost_8 rfl (lv_at hl 2 rfl) ?_
  obtain ⟨r4, hc3, h⟩ := dw_bdS h
  refine dw_cVi C0 Z dw_hA (dw_lt dw_kc142 (by decide)) (dw_cz10 dw_kc142) rfl (As := [.int a2]) (rest := [.int r2, .int (10 : Int32)]) (kX10_rowOf l Γ hj μ a2 hc3) (dw_gV tw_lX10_37 tw_vX10_rowOf tw_eX10_rowOf tw_iX10 tw_kX10_rowOf) dw_hX10_rowOf ⟨Nat.le_of_ble_eq_true rfl, Nat.le_of_ble_eq_true rfl⟩ ⟨Nat.zero_le _, Nat.zero_le _⟩ hl.1 (Nat.le_of_ble_eq_true rfl) rfl dX10_cost_9 (fun H locs Z => ?_)
  refine lv_isub hx hb dX10_cost_12 ?_
  refine dw_cSi C0 Z dw_hA (As := [.int (r2 - r4)]) (rest := [.int (10 : Int32)]) (kX10_size l Γ hj μ (r2 - r4) rfl) (dw_gS tw_lX10_44 tw_sX10_size tw_iX10 tw_kX10_size) dw_hX10_size ⟨Nat.le_of_ble_eq_true rfl, Nat.le_of_ble_eq_true rfl⟩ ⟨Nat.zero_le _, Nat.zero_le _⟩ hl.1 (Nat.le_of_ble_eq_true rfl) rfl dX10_cost_13 (fun H locs Z => ?_)
  refine lv_aload_n hx hb dX10_cost_16 rfl (lv_at hl 0 rfl) ?_
  refine lv_iload_n hx hb dX10_cost_17 rfl (lv_at hl 1 rfl) ?_
  obtain ⟨r6, hc5, h⟩ := dw_bdS h
  refine dw_cVi C0 Z dw_hA (dw_lt dw_kc142 (by decide)) (dw_cz10 dw_kc142) rfl (As := [.int a1]) (rest := [.int (fX10_size (r2 - r4)), .int (10 : Int32)]) (kX10_columnOf l Γ hj μ a1 hc5) (dw_gV tw_lX10_41 tw_vX10_columnOf tw_eX10_columnOf tw_iX10 tw_kX10_columnOf) dw_hX10_columnOf ⟨Nat.le_of_ble_eq_true rfl, Nat.le_of_ble_eq_true rfl⟩ ⟨Nat.zero_le _, Nat.zero_le _⟩ hl.1 (Nat.le_of_ble_eq_true rfl) rfl dX10_cost_18 (fun H locs Z => ?_)
  refine lv_aload_n hx hb dX10_cost_21 rfl (lv_at hl 0 rfl) ?_
  refine lv_iload_n hx hb dX10_cost_22 rfl (lv_at hl 2 rfl) ?_
  obtain ⟨r8, hc7, h⟩ := dw_bdS h
  refine dw_cVi C0 Z dw_hA (dw_lt dw_kc142 (by decide)) (dw_cz10 dw_kc142) rfl (As := [.int a2]) (rest := [.int r6, .int (fX10_size (r2 - r4)), .int (10 : Int32)]) (kX10_columnOf l Γ hj μ a2 hc7) (dw_gV tw_lX10_41 tw_vX10_columnOf tw_eX10_columnOf tw_iX10 tw_kX10_columnOf) dw_hX10_columnOf ⟨Nat.le_of_ble_eq_true rfl, Nat.le_of_ble_eq_true rfl⟩ ⟨Nat.zero_le _, Nat.zero_le _⟩ hl.1 (Nat.le_of_ble_eq_true rfl) rfl dX10_cost_23 (fun H locs Z => ?_)
  refine lv_isub hx hb dX10_cost_26 ?_
  refine dw_cSi C0 Z dw_hA (As := [.int (r6 - r8)]) (rest := [.int (fX10_size (r2 - r4)), .int (10 : Int32)]) (kX10_size l Γ hj μ (r6 - r8) rfl) (dw_gS tw_lX10_44 tw_sX10_size tw_iX10 tw_kX10_size) dw_hX10_size ⟨Nat.le_of_ble_eq_true rfl, Nat.le_of_ble_eq_true rfl⟩ ⟨Nat.zero_le _, Nat.zero_le _⟩ hl.1 (Nat.le_of_ble_eq_true rfl) rfl dX10_cost_27 (fun H locs Z => ?_)
  refine lv_iadd hx hb dX10_cost_30 ?_
  refine lv_imul hx hb dX10_cost_31 ?_
  refine lv_aload_n hx hb dX10_cost_32 rfl (lv_at hl 0 rfl) ?_
  refine dw_g10_0 (t := 143) C0 Z dw_kc142 tw_fX10_7 rfl dX10_cost_33 ?_
  refine lv_bipush (v := (20 : Int32)) hx hb dX10_cost_36 (by decide) ?_
  refine lv_iload_n hx hb dX10_cost_38 rfl (lv_at hl 1 rfl) ?_
  refine lv_iadd hx hb dX10_cost_39 ?_
  obtain ⟨g9, h⟩ := dw_gdS h
  refine dw_ald C0 Z dw_kc143 dw_lc143 g9 dX10_cost_40 ?_
  refine lv_aload_n hx hb dX10_cost_41 rfl (lv_at hl 0 rfl) ?_
  refine dw_g10_0 (t := 143) C0 Z dw_kc142 tw_fX10_7 rfl dX10_cost_42 ?_
  refine lv_bipush (v := (20 : Int32)) hx hb dX10_cost_45 (by decide) ?_
  refine lv_iload_n hx hb dX10_cost_47 rfl (lv_at hl 2 rfl) ?_
  refine lv_iadd hx hb dX10_cost_48 ?_
  obtain ⟨g10, h⟩ := dw_gdS h
  refine dw_ald C0 Z dw_kc143 dw_lc143 g10 dX10_cost_49 ?_
  refine lv_isub hx hb dX10_cost_50 ?_
  refine dw_cSi C0 Z dw_hA (As := [.int ((μ.1 143 ((20 : Int32) + a1).toNatClampNeg) - (μ.1 143 ((20 : Int32) + a2).toNatClampNeg))]) (rest := [.int ((10 : Int32) * ((fX10_size (r2 - r4)) + (fX10_size (r6 - r8))))]) (kX10_size l Γ hj μ ((μ.1 143 ((20 : Int32) + a1).toNatClampNeg) - (μ.1 143 ((20 : Int32) + a2).toNatClampNeg)) rfl) (dw_gS tw_lX10_44 tw_sX10_size tw_iX10 tw_kX10_size) dw_hX10_size ⟨Nat.le_of_ble_eq_true rfl, Nat.le_of_ble_eq_true rfl⟩ ⟨Nat.zero_le _, Nat.zero_le _⟩ hl.1 (Nat.le_of_ble_eq_true rfl) rfl dX10_cost_51 (fun H locs Z => ?_)
  refine lv_iadd hx hb dX10_cost_54 ?_
  obtain rfl := dw_s1 h
  exact dw_iret C0 Z hr hlk dX10_cost_55

def sX10_takePair_16 (μ : dw_M) (x2 : Int32) (x5 : Int32) (x6 : Int32) : Option ((Int32 × Int32) ⊕ ((Int32))) :=
  if (fX10_places μ) ≤ x6 then (
  some (.inr x5))
  else (
  dw_gd (dw_ok ((220 : Int32) + x2) 800) (
  dw_jm (fun (x9 : Int32) =>
  if x9 = 0 then (
  dw_nm (x6 + (1 : Int32)) (fun x11 =>
  some (.inl (x5, x11))))
  else (
  if x5 < 0 then (
  dw_nm (((100 : Int32) * x2) + x6) (fun x13 =>
  dw_nm (x6 + (1 : Int32)) (fun x14 =>
  some (.inl (x13, x14)))))
  else (
  dw_bd (fX10_cost μ x2 x6) (fun r16 =>
  dw_bd (fX10_cost μ (x5 / (100 : Int32)) (dw_re x5 (100 : Int32))) (fun r18 =>
  if r18 ≤ r16 then (
  dw_nm (x6 + (1 : Int32)) (fun x20 =>
  some (.inl (x5, x20))))
  else (
  dw_nm (((100 : Int32) * x2) + x6) (fun x21 =>
  dw_nm (x6 + (1 : Int32)) (fun x22 =>
  some (.inl (x21, x22)))))))))) (fun k72 =>
  dw_jm (k72 (0 : Int32)) (fun k71 =>
  if (μ.1 143 ((220 : Int32) + x2).toNatClampNeg) = (1 : Int32) then (
  dw_gd (dw_ok ((220 : Int32) + x6) 800) (
  if (μ.1 143 ((220 : Int32) + x6).toNatClampNeg) = (1 : Int32) then (
  dw_gd (dw_ok x2 36) (
  dw_gd (dw_ok x6 36) (
  if (μ.1 146 x2.toNatClampNeg) = (μ.1 146 x6.toNatClampNeg) then (
  k71)
  else (
  k72 (1 : Int32)))))
  else (
  k71)))
  else (
  k71)))))
def sX10_takePair_4 (μ : dw_M) (x1 : Int32) (x2 : Int32) : Option ((Int32 × Int32) ⊕ ((Int32))) :=
  if (fX10_places μ) ≤ x2 then (
  some (.inr x1))
  else (
  dw_nm (x2 + (1 : Int32)) (fun x4 =>
  dw_bd (dw_wh (fun v => sX10_takePair_16 μ x2 v.1 v.2) 1000 (x1, x4))
    (fun x29 => dw_nm (x2 + (1 : Int32)) (fun x30 =>
  some (.inl (x29, x30))))))
def sX10_takePair_141 (x31 : Int32) (x34 : Int32) (x35 : Int32) (μ36 : dw_M) : Option ((Int32 × dw_M) ⊕ ((dw_M))) :=
  if (fX10_places μ36) ≤ x35 then (
  some (.inr μ36))
  else (
  dw_gd (dw_ok x35 36) (
  if (μ36.1 146 x35.toNatClampNeg) = x34 then (
  dw_gd (dw_ok (x31 / (100 : Int32)) 36) (
  dw_nm (dw_st μ36 146 x35.toNatClampNeg (μ36.1 146 (x31 / (100 : Int32)).toNatClampNeg)) (fun μ43 =>
  dw_nm (x35 + (1 : Int32)) (fun x44 =>
  some (.inl (x44, μ43))))))
  else (
  dw_nm (dw_st μ36 146 x35.toNatClampNeg (μ36.1 146 x35.toNatClampNeg)) (fun μ40 =>
  dw_nm (x35 + (1 : Int32)) (fun x41 =>
  some (.inl (x41, μ40)))))))
def fX10_takePair (μ : dw_M) : Option (Int32 × dw_M) :=
  dw_bd (dw_wh (fun v => sX10_takePair_4 μ v.1 v.2) 1000 ((-1 : Int32), (0 : Int32)))
    (fun x31 => if 0 ≤ x31 then (
  dw_gd (dw_ok (dw_re x31 (100 : Int32)) 36) (
  dw_nm (μ.1 146 (dw_re x31 (100 : Int32)).toNatClampNeg) (fun x34 =>
  dw_bd (dw_wh (fun v => sX10_takePair_141 x31 x34 v.1 v.2) 1000 ((0 : Int32), μ))
    (fun μ45 => dw_gd (dw_ok (μ45.1 142 6) 36) (
  dw_nm (dw_st μ45 147 (μ45.1 142 6).toNatClampNeg x31) (fun μ47 =>
  dw_nm (dw_st μ47 142 6 ((μ47.1 142 6) + (1 : Int32))) (fun μ48 =>
  some ((1 : Int32), μ48))))))))
  else (
  some ((0 : Int32), μ)))
set_option maxHeartbeats 4000000 in
set_option maxRecDepth 100000 in
theorem kX10_takePair (l : Launch) (Γ : dw_G) (hj : dw_inj Γ) (μ : dw_M)  {r : Int32} {ν : dw_M} (h : fX10_takePair μ = some (r, ν)) : Met l yX10_takePair (dw_ws yX10_takePair cX10_takePair 5 (some .boolean)) (dw_rm 2 43) (dw_P Γ ([.ref (dw_ad Γ 142)] : List Value) μ) (dw_Qi Γ r ν) 0 0 (dw_A Γ) := by
  refine dw_met (own := RX10) rfl rfl (Nat.le_of_ble_eq_true rfl) hj ?_
  intro p e s m below meth c C0 hr hlk Z ls hl
  have hx := C0.1
  have hb := C0.2.1
  have hl : lv_has ls 5 [(0, .ref (dw_ad Γ 142))] := hl
  suffices key : ∀ (H : Heap) (locs : List Loc), dw_Z Γ (dw_A Γ) s.heap μ H locs → W p l e (dw_rm 2 43) s m ([.ref (dw_ad Γ 142)] : List Value).toArray below meth c H locs 0 0 (MQ below (dw_Qi Γ r ν) ([.ref (dw_ad Γ 142)] : List Value).toArray s 0 0 (dw_A Γ)) (F0 m 0 ls []) from key _ _ Z
  clear Z
  intro H locs Z
  unfold fX10_takePair at h
  refine lv_iconst (v := (-1 : Int32)) hx hb dX10_takePair_0 (by decide) ?_
  refine lv_istore_n (lv' := [(1, .int (-1 : Int32)), (0, .ref (dw_ad Γ 142))]) hx hb dX10_takePair_1 rfl hl (by decide) rfl (fun ls hl => ?_)
  refine lv_iconst (v := (0 : Int32)) hx hb dX10_takePair_2 (by decide) ?_
  refine lv_istore_n (lv' := [(2, .int (0 : Int32)), (1, .int (-1 : Int32)), (0, .ref (dw_ad Γ 142))]) hx hb dX10_takePair_3 rfl hl (by decide) rfl (fun ls hl => ?_)
  obtain ⟨kc4, ekc4, h⟩ := dw_bdK h
  have E4 : ∀ (x31 : Int32) (H : Heap) (locs : List Loc) (ls : Array Slot), dw_Z Γ (dw_A Γ) s.heap μ H locs → lv_has ls 5 [(0, .ref (dw_ad Γ 142)), (1, .int x31)] → kc4 x31 = some (r, ν) → W p l e (dw_rm 2 43) s m ([.ref (dw_ad Γ 142)] : List Value).toArray below meth c H locs 0 0 (MQ below (dw_Qi Γ r ν) ([.ref (dw_ad Γ 142)] : List Value).toArray s 0 0 (dw_A Γ)) (F0 m 123 ls []) := by
    intro x31 H locs ls Z hl h
    rw [ekc4] at h
    dsimp only at h
    refine lv_iload_n hx hb dX10_takePair_123 rfl (lv_at hl 1 rfl) ?_
    refine lv_if_ge (tgt := 129) hx hb dX10_takePair_124 (by decide) (fun c32 => ?_) (fun c32 => ?_)
    · have h := dw_ifT c32 h
      refine lv_aload_n hx hb dX10_takePair_129 rfl (lv_at hl 0 rfl) ?_
      refine dw_g10_4 (t := 146) C0 Z dw_kc142 tw_fX10_19 rfl dX10_takePair_130 ?_
      refine lv_iload_n hx hb dX10_takePair_133 rfl (lv_at hl 1 rfl) ?_
      refine lv_bipush (v := (100 : Int32)) hx hb dX10_takePair_134 (by decide) ?_
      refine lv_irem hx hb dX10_takePair_136 (by decide) ?_
      refine W.eq (g2 := F0 m 137 ls [.int (dw_re x31 (100 : Int32)), .ref (dw_ad Γ 146)]) rfl ?_
      obtain ⟨g33, h⟩ := dw_gdS h
      refine dw_ald C0 Z dw_kc146 dw_lc146 g33 dX10_takePair_137 ?_
      refine lv_topi (fun x34 ex34 => ?_)
      have h := dw_nmS ex34 h
      refine lv_istore_n (lv' := [(2, .int x34), (0, .ref (dw_ad Γ 142)), (1, .int x31)]) hx hb dX10_takePair_138 rfl hl (by decide) rfl (fun ls hl => ?_)
      refine lv_iconst (v := (0 : Int32)) hx hb dX10_takePair_139 (by decide) ?_
      refine lv_istore_n (lv' := [(3, .int (0 : Int32)), (2, .int x34), (0, .ref (dw_ad Γ 142)), (1, .int x31)]) hx hb dX10_takePair_140 rfl hl (by decide) rfl (fun ls hl => ?_)
      obtain ⟨kc141, ekc141, h⟩ := dw_bdK h
      have E141 : ∀ (μ45 : dw_M) (H : Heap) (locs : List Loc) (ls : Array Slot), dw_Z Γ (dw_A Γ) s.heap μ45 H locs → lv_has ls 5 [(0, .ref (dw_ad Γ 142)), (1, .int x31)] → kc141 μ45 = some (r, ν) → W p l e (dw_rm 2 43) s m ([.ref (dw_ad Γ 142)] : List Value).toArray below meth c H locs 0 0 (MQ below (dw_Qi Γ r ν) ([.ref (dw_ad Γ 142)] : List Value).toArray s 0 0 (dw_A Γ)) (F0 m 189 ls []) := by
        intro μ45 H locs ls Z hl h
        rw [ekc141] at h
        dsimp only at h
        refine lv_aload_n hx hb dX10_takePair_189 rfl (lv_at hl 0 rfl) ?_
        refine dw_g10_5 (t := 147) C0 Z dw_kc142 tw_fX10_22 rfl dX10_takePair_190 ?_
        refine lv_aload_n hx hb dX10_takePair_193 rfl (lv_at hl 0 rfl) ?_
        refine dw_g10_6 C0 Z dw_kc142 tw_fX10_123 dX10_takePair_194 ?_
        refine lv_iload_n hx hb dX10_takePair_197 rfl (lv_at hl 1 rfl) ?_
        obtain ⟨g46, h⟩ := dw_gdS h
        refine dw_ast C0 Z dw_hA dw_kc147 dw_lc147 g46 dX10_takePair_198 (fun μ47 eμ47 H locs Z => ?_)
        have h := dw_nmS eμ47 h
        refine lv_aload_n hx hb dX10_takePair_199 rfl (lv_at hl 0 rfl) ?_
        refine lv_dup hx hb dX10_takePair_200 rfl ?_
        refine dw_g10_6 C0 Z dw_kc142 tw_fX10_123 dX10_takePair_201 ?_
        refine lv_iconst (v := (1 : Int32)) hx hb dX10_takePair_204 (by decide) ?_
        refine lv_iadd hx hb dX10_takePair_205 ?_
        refine dw_p10_6 C0 Z dw_hA dw_kc142 tw_fX10_123 dX10_takePair_206 (fun μ48 eμ48 H locs Z => ?_)
        have h := dw_nmS eμ48 h
        refine lv_iconst (v := (1 : Int32)) hx hb dX10_takePair_209 (by decide) ?_
        obtain ⟨rfl, rfl⟩ := dw_s2 h
        exact dw_zret C0 Z hr hlk rfl dX10_takePair_210
      have L141 : ∀ (n141 : Nat) (x35 : Int32) (μ36 : dw_M) (H : Heap) (locs : List Loc) (ls : Array Slot), dw_Z Γ (dw_A Γ) s.heap μ36 H locs → lv_has ls 5 [(0, .ref (dw_ad Γ 142)), (1, .int x31), (2, .int x34), (3, .int x35)] → dw_bd (dw_wh (fun v => sX10_takePair_141 x31 x34 v.1 v.2) n141 (x35, μ36)) kc141 = some (r, ν) → W p l e (dw_rm 2 43) s m ([.ref (dw_ad Γ 142)] : List Value).toArray below meth c H locs 0 0 (MQ below (dw_Qi Γ r ν) ([.ref (dw_ad Γ 142)] : List Value).toArray s 0 0 (dw_A Γ)) (F0 m 141 ls []) := by
        clear h
        intro n141
        induction n141 with
        | zero =>
          intro x35 μ36 H locs ls Z hl h
          exact (dw_wh0 h).elim
        | succ n141 ih141 =>
          intro x35 μ36 H locs ls Z hl h
          obtain ⟨q141, hs, hq141⟩ := dw_whB h
          have h : sX10_takePair_141 x31 x34 x35 μ36 = some q141 := hs
          unfold sX10_takePair_141 at h
          refine lv_iload_n hx hb dX10_takePair_141 rfl (lv_at hl 3 rfl) ?_
          refine lv_aload_n hx hb dX10_takePair_142 rfl (lv_at hl 0 rfl) ?_
          refine dw_cVi C0 Z dw_hA (dw_lt dw_kc142 (by decide)) (dw_cz10 dw_kc142) rfl (As := []) (rest := [.int x35]) (kX10_places l Γ hj μ36 rfl) (dw_gV tw_lX10_25 tw_vX10_places tw_eX10_places tw_iX10 tw_kX10_places) dw_hX10_places ⟨Nat.le_of_ble_eq_true rfl, Nat.le_of_ble_eq_true rfl⟩ ⟨Nat.zero_le _, Nat.zero_le _⟩ hl.1 (Nat.le_of_ble_eq_true rfl) rfl dX10_takePair_143 (fun H locs Z => ?_)
          refine lv_icmp_ge (tgt := 189) hx hb dX10_takePair_146 (by decide) (fun c37 => ?_) (fun c37 => ?_)
          · have h := dw_ifT c37 h
            obtain rfl := dw_s1 h
            exact E141  μ36 H locs ls Z (lv_sub hl [0, 1] rfl) hq141
          · have h := dw_ifF c37 h
            refine lv_aload_n hx hb dX10_takePair_149 rfl (lv_at hl 0 rfl) ?_
            refine dw_g10_4 (t := 146) C0 Z dw_kc142 tw_fX10_19 rfl dX10_takePair_150 ?_
            refine lv_iload_n hx hb dX10_takePair_153 rfl (lv_at hl 3 rfl) ?_
            refine lv_aload_n hx hb dX10_takePair_154 rfl (lv_at hl 0 rfl) ?_
            refine dw_g10_4 (t := 146) C0 Z dw_kc142 tw_fX10_19 rfl dX10_takePair_155 ?_
            refine lv_iload_n hx hb dX10_takePair_158 rfl (lv_at hl 3 rfl) ?_
            obtain ⟨g38, h⟩ := dw_gdS h
            refine dw_ald C0 Z dw_kc146 dw_lc146 g38 dX10_takePair_159 ?_
            refine lv_iload_n hx hb dX10_takePair_160 rfl (lv_at hl 2 rfl) ?_
            refine lv_icmp_ne (tgt := 176) hx hb dX10_takePair_161 (by decide) (fun c39 => ?_) (fun c39 => ?_)
            · have h := dw_ifF c39 h
              refine lv_aload_n hx hb dX10_takePair_176 rfl (lv_at hl 0 rfl) ?_
              refine dw_g10_4 (t := 146) C0 Z dw_kc142 tw_fX10_19 rfl dX10_takePair_177 ?_
              refine lv_iload_n hx hb dX10_takePair_180 rfl (lv_at hl 3 rfl) ?_
              refine dw_ald C0 Z dw_kc146 dw_lc146 g38 dX10_takePair_181 ?_
              refine dw_ast C0 Z dw_hA dw_kc146 dw_lc146 g38 dX10_takePair_182 (fun μ40 eμ40 H locs Z => ?_)
              have h := dw_nmS eμ40 h
              obtain ⟨x41, ex41⟩ := dw_eg (x35 + (1 : Int32))
              have h := dw_nmS ex41 h
              refine lv_iinc (v := x41) (lv' := [(3, .int x41), (0, .ref (dw_ad Γ 142)), (1, .int x31), (2, .int x34)]) hx hb dX10_takePair_183 hl (k := 3) rfl (by rw [ex41]; rfl) (by decide) rfl (fun ls hl => ?_)
              refine lv_goto (tgt := 141) hx hb dX10_takePair_186 (by decide) ?_
              obtain rfl := dw_s1 h
              exact ih141 x41 μ40 H locs ls Z (lv_sub hl [1, 2, 3, 0] rfl) hq141
            · have h := dw_ifT c39 h
              refine lv_aload_n hx hb dX10_takePair_164 rfl (lv_at hl 0 rfl) ?_
              refine dw_g10_4 (t := 146) C0 Z dw_kc142 tw_fX10_19 rfl dX10_takePair_165 ?_
              refine lv_iload_n hx hb dX10_takePair_168 rfl (lv_at hl 1 rfl) ?_
              refine lv_bipush (v := (100 : Int32)) hx hb dX10_takePair_169 (by decide) ?_
              refine lv_idiv hx hb dX10_takePair_171 (by decide) ?_
              obtain ⟨g42, h⟩ := dw_gdS h
              refine dw_ald C0 Z dw_kc146 dw_lc146 g42 dX10_takePair_172 ?_
              refine lv_goto (tgt := 182) hx hb dX10_takePair_173 (by decide) ?_
              refine dw_ast C0 Z dw_hA dw_kc146 dw_lc146 g38 dX10_takePair_182 (fun μ43 eμ43 H locs Z => ?_)
              have h := dw_nmS eμ43 h
              obtain ⟨x44, ex44⟩ := dw_eg (x35 + (1 : Int32))
              have h := dw_nmS ex44 h
              refine lv_iinc (v := x44) (lv' := [(3, .int x44), (0, .ref (dw_ad Γ 142)), (1, .int x31), (2, .int x34)]) hx hb dX10_takePair_183 hl (k := 3) rfl (by rw [ex44]; rfl) (by decide) rfl (fun ls hl => ?_)
              refine lv_goto (tgt := 141) hx hb dX10_takePair_186 (by decide) ?_
              obtain rfl := dw_s1 h
              exact ih141 x44 μ43 H locs ls Z (lv_sub hl [1, 2, 3, 0] rfl) hq141
      exact L141 1000 (0 : Int32) μ H locs ls Z (lv_sub hl [2, 3, 1, 0] rfl) h
    · have h := dw_ifF c32 h
      refine lv_iconst (v := (0 : Int32)) hx hb dX10_takePair_127 (by decide) ?_
      obtain ⟨rfl, rfl⟩ := dw_s2 h
      exact dw_zret C0 Z hr hlk rfl dX10_takePair_128
  have L4 : ∀ (n4 : Nat) (x1 : Int32) (x2 : Int32) (H : Heap) (locs : List Loc) (ls : Array Slot), dw_Z Γ (dw_A Γ) s.heap μ H locs → lv_has ls 5 [(0, .ref (dw_ad Γ 142)), (1, .int x1), (2, .int x2)] → dw_bd (dw_wh (fun v => sX10_takePair_4 μ v.1 v.2) n4 (x1, x2)) kc4 = some (r, ν) → W p l e (dw_rm 2 43) s m ([.ref (dw_ad Γ 142)] : List Value).toArray below meth c H locs 0 0 (MQ below (dw_Qi Γ r ν) ([.ref (dw_ad Γ 142)] : List Value).toArray s 0 0 (dw_A Γ)) (F0 m 4 ls []) := by
    clear h
    intro n4
    induction n4 with
    | zero =>
      intro x1 x2 H locs ls Z hl h
      exact (dw_wh0 h).elim
    | succ n4 ih4 =>
      intro x1 x2 H locs ls Z hl h
      obtain ⟨q4, hs, hq4⟩ := dw_whB h
      have h : sX10_takePair_4 μ x1 x2 = some q4 := hs
      unfold sX10_takePair_4 at h
      refine lv_iload_n hx hb dX10_takePair_4 rfl (lv_at hl 2 rfl) ?_
      refine lv_aload_n hx hb dX10_takePair_5 rfl (lv_at hl 0 rfl) ?_
      refine dw_cVi C0 Z dw_hA (dw_lt dw_kc142 (by decide)) (dw_cz10 dw_kc142) rfl (As := []) (rest := [.int x2]) (kX10_places l Γ hj μ rfl) (dw_gV tw_lX10_25 tw_vX10_places tw_eX10_places tw_iX10 tw_kX10_places) dw_hX10_places ⟨Nat.le_of_ble_eq_true rfl, Nat.le_of_ble_eq_true rfl⟩ ⟨Nat.zero_le _, Nat.zero_le _⟩ hl.1 (Nat.le_of_ble_eq_true rfl) rfl dX10_takePair_6 (fun H locs Z => ?_)
      refine lv_icmp_ge (tgt := 123) hx hb dX10_takePair_9 (by decide) (fun c3 => ?_) (fun c3 => ?_)
      · have h := dw_ifT c3 h
        obtain rfl := dw_s1 h
        exact E4 x1 H locs ls Z (lv_sub hl [0, 1] rfl) hq4
      · have h := dw_ifF c3 h
        refine lv_iload_n hx hb dX10_takePair_12 rfl (lv_at hl 2 rfl) ?_
        refine lv_iconst (v := (1 : Int32)) hx hb dX10_takePair_13 (by decide) ?_
        refine lv_iadd hx hb dX10_takePair_14 ?_
        refine lv_topi (fun x4 ex4 => ?_)
        have h := dw_nmS ex4 h
        refine lv_istore_n (lv' := [(3, .int x4), (0, .ref (dw_ad Γ 142)), (1, .int x1), (2, .int x2)]) hx hb dX10_takePair_15 rfl hl (by decide) rfl (fun ls hl => ?_)
        obtain ⟨kc16, ekc16, h⟩ := dw_bdK h
        have E16 : ∀ (x29 : Int32) (H : Heap) (locs : List Loc) (ls : Array Slot), dw_Z Γ (dw_A Γ) s.heap μ H locs → lv_has ls 5 [(0, .ref (dw_ad Γ 142)), (1, .int x29), (2, .int x2)] → kc16 x29 = some q4 → W p l e (dw_rm 2 43) s m ([.ref (dw_ad Γ 142)] : List Value).toArray below meth c H locs 0 0 (MQ below (dw_Qi Γ r ν) ([.ref (dw_ad Γ 142)] : List Value).toArray s 0 0 (dw_A Γ)) (F0 m 117 ls []) := by
          intro x29 H locs ls Z hl h
          rw [ekc16] at h
          dsimp only at h
          obtain ⟨x30, ex30⟩ := dw_eg (x2 + (1 : Int32))
          have h := dw_nmS ex30 h
          refine lv_iinc (v := x30) (lv' := [(2, .int x30), (0, .ref (dw_ad Γ 142)), (1, .int x29)]) hx hb dX10_takePair_117 hl (k := 2) rfl (by rw [ex30]; rfl) (by decide) rfl (fun ls hl => ?_)
          refine lv_goto (tgt := 4) hx hb dX10_takePair_120 (by decide) ?_
          obtain rfl := dw_s1 h
          exact ih4 x29 x30 H locs ls Z (lv_sub hl [1, 2, 0] rfl) hq4
        have L16 : ∀ (n16 : Nat) (x5 : Int32) (x6 : Int32) (H : Heap) (locs : List Loc) (ls : Array Slot), dw_Z Γ (dw_A Γ) s.heap μ H locs → lv_has ls 5 [(0, .ref (dw_ad Γ 142)), (1, .int x5), (2, .int x2), (3, .int x6)] → dw_bd (dw_wh (fun v => sX10_takePair_16 μ x2 v.1 v.2) n16 (x5, x6)) kc16 = some q4 → W p l e (dw_rm 2 43) s m ([.ref (dw_ad Γ 142)] : List Value).toArray below meth c H locs 0 0 (MQ below (dw_Qi Γ r ν) ([.ref (dw_ad Γ 142)] : List Value).toArray s 0 0 (dw_A Γ)) (F0 m 16 ls []) := by
          clear h
          intro n16
          induction n16 with
          | zero =>
            intro x5 x6 H locs ls Z hl h
            exact (dw_wh0 h).elim
          | succ n16 ih16 =>
            intro x5 x6 H locs ls Z hl h
            obtain ⟨q16, hs, hq16⟩ := dw_whB h
            have h : sX10_takePair_16 μ x2 x5 x6 = some q16 := hs
            unfold sX10_takePair_16 at h
            refine lv_iload_n hx hb dX10_takePair_16 rfl (lv_at hl 3 rfl) ?_
            refine lv_aload_n hx hb dX10_takePair_17 rfl (lv_at hl 0 rfl) ?_
            refine dw_cVi C0 Z dw_hA (dw_lt dw_kc142 (by decide)) (dw_cz10 dw_kc142) rfl (As := []) (rest := [.int x6]) (kX10_places l Γ hj μ rfl) (dw_gV tw_lX10_25 tw_vX10_places tw_eX10_places tw_iX10 tw_kX10_places) dw_hX10_places ⟨Nat.le_of_ble_eq_true rfl, Nat.le_of_ble_eq_true rfl⟩ ⟨Nat.zero_le _, Nat.zero_le _⟩ hl.1 (Nat.le_of_ble_eq_true rfl) rfl dX10_takePair_18 (fun H locs Z => ?_)
            refine lv_icmp_ge (tgt := 117) hx hb dX10_takePair_21 (by decide) (fun c7 => ?_) (fun c7 => ?_)
            · have h := dw_ifT c7 h
              obtain rfl := dw_s1 h
              exact E16 x5 H locs ls Z (lv_sub hl [0, 1, 2] rfl) hq16
            · have h := dw_ifF c7 h
              refine lv_aload_n hx hb dX10_takePair_24 rfl (lv_at hl 0 rfl) ?_
              refine dw_g10_0 (t := 143) C0 Z dw_kc142 tw_fX10_7 rfl dX10_takePair_25 ?_
              refine lv_sipush (v := (220 : Int32)) hx hb dX10_takePair_28 (by decide) ?_
              refine lv_iload_n hx hb dX10_takePair_31 rfl (lv_at hl 2 rfl) ?_
              refine lv_iadd hx hb dX10_takePair_32 ?_
              obtain ⟨g8, h⟩ := dw_gdS h
              refine dw_ald C0 Z dw_kc143 dw_lc143 g8 dX10_takePair_33 ?_
              refine lv_iconst (v := (1 : Int32)) hx hb dX10_takePair_34 (by decide) ?_
              obtain ⟨k72, ek72, h⟩ := dw_jnS h
              have J72 : ∀ (x9 : Int32) (H : Heap) (locs : List Loc) (ls : Array Slot), dw_Z Γ (dw_A Γ) s.heap μ H locs → lv_has ls 5 [(0, .ref (dw_ad Γ 142)), (1, .int x5), (2, .int x2), (3, .int x6)] → k72 x9 = some q16 → W p l e (dw_rm 2 43) s m ([.ref (dw_ad Γ 142)] : List Value).toArray below meth c H locs 0 0 (MQ below (dw_Qi Γ r ν) ([.ref (dw_ad Γ 142)] : List Value).toArray s 0 0 (dw_A Γ)) (F0 m 72 ls [.int x9]) := by
                clear h
                intro x9 H locs ls Z hl h
                rw [ek72] at h
                dsimp only at h
                refine lv_istore (lv' := [(4, .int x9), (0, .ref (dw_ad Γ 142)), (1, .int x5), (2, .int x2), (3, .int x6)]) hx hb dX10_takePair_72 hl (by decide) rfl (fun ls hl => ?_)
                refine lv_iload hx hb dX10_takePair_74 (lv_at hl 0 rfl) ?_
                refine lv_if_eq (tgt := 111) hx hb dX10_takePair_76 (by decide) (fun c10 => ?_) (fun c10 => ?_)
                · have h := dw_ifT c10 h
                  obtain ⟨x11, ex11⟩ := dw_eg (x6 + (1 : Int32))
                  have h := dw_nmS ex11 h
                  refine lv_iinc (v := x11) (lv' := [(3, .int x11), (4, .int x9), (0, .ref (dw_ad Γ 142)), (1, .int x5), (2, .int x2)]) hx hb dX10_takePair_111 hl (k := 4) rfl (by rw [ex11]; rfl) (by decide) rfl (fun ls hl => ?_)
                  refine lv_goto (tgt := 16) hx hb dX10_takePair_114 (by decide) ?_
                  obtain rfl := dw_s1 h
                  exact ih16 x5 x11 H locs ls Z (lv_sub hl [2, 3, 4, 0] rfl) hq16
                · have h := dw_ifF c10 h
                  refine lv_iload_n hx hb dX10_takePair_79 rfl (lv_at hl 2 rfl) ?_
                  refine lv_if_lt (tgt := 104) hx hb dX10_takePair_80 (by decide) (fun c12 => ?_) (fun c12 => ?_)
                  · have h := dw_ifT c12 h
                    refine lv_bipush (v := (100 : Int32)) hx hb dX10_takePair_104 (by decide) ?_
                    refine lv_iload_n hx hb dX10_takePair_106 rfl (lv_at hl 3 rfl) ?_
                    refine lv_imul hx hb dX10_takePair_107 ?_
                    refine lv_iload_n hx hb dX10_takePair_108 rfl (lv_at hl 4 rfl) ?_
                    refine lv_iadd hx hb dX10_takePair_109 ?_
                    refine lv_topi (fun x13 ex13 => ?_)
                    have h := dw_nmS ex13 h
                    refine lv_istore_n (lv' := [(1, .int x13), (4, .int x9), (0, .ref (dw_ad Γ 142)), (2, .int x2), (3, .int x6)]) hx hb dX10_takePair_110 rfl hl (by decide) rfl (fun ls hl => ?_)
                    obtain ⟨x14, ex14⟩ := dw_eg (x6 + (1 : Int32))
                    have h := dw_nmS ex14 h
                    refine lv_iinc (v := x14) (lv' := [(3, .int x14), (1, .int x13), (4, .int x9), (0, .ref (dw_ad Γ 142)), (2, .int x2)]) hx hb dX10_takePair_111 hl (k := 4) rfl (by rw [ex14]; rfl) (by decide) rfl (fun ls hl => ?_)
                    refine lv_goto (tgt := 16) hx hb dX10_takePair_114 (by decide) ?_
                    obtain rfl := dw_s1 h
                    exact ih16 x13 x14 H locs ls Z (lv_sub hl [3, 1, 4, 0] rfl) hq16
                  · have h := dw_ifF c12 h
                    refine lv_aload_n hx hb dX10_takePair_83 rfl (lv_at hl 1 rfl) ?_
                    refine lv_iload_n hx hb dX10_takePair_84 rfl (lv_at hl 3 rfl) ?_
                    refine lv_iload_n hx hb dX10_takePair_85 rfl (lv_at hl 4 rfl) ?_
                    obtain ⟨r16, hc15, h⟩ := dw_bdS h
                    refine dw_cVi C0 Z dw_hA (dw_lt dw_kc142 (by decide)) (dw_cz10 dw_kc142) rfl (As := [.int x2, .int x6]) (rest := []) (kX10_cost l Γ hj μ x2 x6 hc15) (dw_gV tw_lX10_120 tw_vX10_cost tw_eX10_cost tw_iX10 tw_kX10_cost) dw_hX10_cost ⟨Nat.le_of_ble_eq_true rfl, Nat.le_of_ble_eq_true rfl⟩ ⟨Nat.zero_le _, Nat.zero_le _⟩ hl.1 (Nat.le_of_ble_eq_true rfl) rfl dX10_takePair_86 (fun H locs Z => ?_)
                    refine lv_aload_n hx hb dX10_takePair_89 rfl (lv_at hl 1 rfl) ?_
                    refine lv_iload_n hx hb dX10_takePair_90 rfl (lv_at hl 2 rfl) ?_
                    refine lv_bipush (v := (100 : Int32)) hx hb dX10_takePair_91 (by decide) ?_
                    refine lv_idiv hx hb dX10_takePair_93 (by decide) ?_
                    refine lv_iload_n hx hb dX10_takePair_94 rfl (lv_at hl 2 rfl) ?_
                    refine lv_bipush (v := (100 : Int32)) hx hb dX10_takePair_95 (by decide) ?_
                    refine lv_irem hx hb dX10_takePair_97 (by decide) ?_
                    refine W.eq (g2 := F0 m 98 ls [.int (dw_re x5 (100 : Int32)), .int (x5 / (100 : Int32)), .ref (dw_ad Γ 142), .int r16]) rfl ?_
                    obtain ⟨r18, hc17, h⟩ := dw_bdS h
                    refine dw_cVi C0 Z dw_hA (dw_lt dw_kc142 (by decide)) (dw_cz10 dw_kc142) rfl (As := [.int (x5 / (100 : Int32)), .int (dw_re x5 (100 : Int32))]) (rest := [.int r16]) (kX10_cost l Γ hj μ (x5 / (100 : Int32)) (dw_re x5 (100 : Int32)) hc17) (dw_gV tw_lX10_120 tw_vX10_cost tw_eX10_cost tw_iX10 tw_kX10_cost) dw_hX10_cost ⟨Nat.le_of_ble_eq_true rfl, Nat.le_of_ble_eq_true rfl⟩ ⟨Nat.zero_le _, Nat.zero_le _⟩ hl.1 (Nat.le_of_ble_eq_true rfl) rfl dX10_takePair_98 (fun H locs Z => ?_)
                    refine lv_icmp_ge (tgt := 111) hx hb dX10_takePair_101 (by decide) (fun c19 => ?_) (fun c19 => ?_)
                    · have h := dw_ifT c19 h
                      obtain ⟨x20, ex20⟩ := dw_eg (x6 + (1 : Int32))
                      have h := dw_nmS ex20 h
                      refine lv_iinc (v := x20) (lv' := [(3, .int x20), (4, .int x9), (0, .ref (dw_ad Γ 142)), (1, .int x5), (2, .int x2)]) hx hb dX10_takePair_111 hl (k := 4) rfl (by rw [ex20]; rfl) (by decide) rfl (fun ls hl => ?_)
                      refine lv_goto (tgt := 16) hx hb dX10_takePair_114 (by decide) ?_
                      obtain rfl := dw_s1 h
                      exact ih16 x5 x20 H locs ls Z (lv_sub hl [2, 3, 4, 0] rfl) hq16
                    · have h := dw_ifF c19 h
                      refine lv_bipush (v := (100 : Int32)) hx hb dX10_takePair_104 (by decide) ?_
                      refine lv_iload_n hx hb dX10_takePair_106 rfl (lv_at hl 3 rfl) ?_
                      refine lv_imul hx hb dX10_takePair_107 ?_
                      refine lv_iload_n hx hb dX10_takePair_108 rfl (lv_at hl 4 rfl) ?_
                      refine lv_iadd hx hb dX10_takePair_109 ?_
                      refine lv_topi (fun x21 ex21 => ?_)
                      have h := dw_nmS ex21 h
                      refine lv_istore_n (lv' := [(1, .int x21), (4, .int x9), (0, .ref (dw_ad Γ 142)), (2, .int x2), (3, .int x6)]) hx hb dX10_takePair_110 rfl hl (by decide) rfl (fun ls hl => ?_)
                      obtain ⟨x22, ex22⟩ := dw_eg (x6 + (1 : Int32))
                      have h := dw_nmS ex22 h
                      refine lv_iinc (v := x22) (lv' := [(3, .int x22), (1, .int x21), (4, .int x9), (0, .ref (dw_ad Γ 142)), (2, .int x2)]) hx hb dX10_takePair_111 hl (k := 4) rfl (by rw [ex22]; rfl) (by decide) rfl (fun ls hl => ?_)
                      refine lv_goto (tgt := 16) hx hb dX10_takePair_114 (by decide) ?_
                      obtain rfl := dw_s1 h
                      exact ih16 x21 x22 H locs ls Z (lv_sub hl [3, 1, 4, 0] rfl) hq16
              obtain ⟨k71, ek71, h⟩ := dw_jnS h
              have J71 : ∀ (H : Heap) (locs : List Loc) (ls : Array Slot), dw_Z Γ (dw_A Γ) s.heap μ H locs → lv_has ls 5 [(0, .ref (dw_ad Γ 142)), (1, .int x5), (2, .int x2), (3, .int x6)] → k71 = some q16 → W p l e (dw_rm 2 43) s m ([.ref (dw_ad Γ 142)] : List Value).toArray below meth c H locs 0 0 (MQ below (dw_Qi Γ r ν) ([.ref (dw_ad Γ 142)] : List Value).toArray s 0 0 (dw_A Γ)) (F0 m 71 ls []) := by
                clear h
                intro  H locs ls Z hl h
                rw [ek71] at h
                refine lv_iconst (v := (0 : Int32)) hx hb dX10_takePair_71 (by decide) ?_
                exact J72 (0 : Int32) H locs ls Z (lv_sub hl [0, 1, 2, 3] rfl) h
              refine lv_icmp_ne (tgt := 71) hx hb dX10_takePair_35 (by decide) (fun c23 => ?_) (fun c23 => ?_)
              · have h := dw_ifF c23 h
                exact J71 H locs ls Z (lv_sub hl [0, 1, 2, 3] rfl) h
              · have h := dw_ifT c23 h
                refine lv_aload_n hx hb dX10_takePair_38 rfl (lv_at hl 0 rfl) ?_
                refine dw_g10_0 (t := 143) C0 Z dw_kc142 tw_fX10_7 rfl dX10_takePair_39 ?_
                refine lv_sipush (v := (220 : Int32)) hx hb dX10_takePair_42 (by decide) ?_
                refine lv_iload_n hx hb dX10_takePair_45 rfl (lv_at hl 3 rfl) ?_
                refine lv_iadd hx hb dX10_takePair_46 ?_
                obtain ⟨g24, h⟩ := dw_gdS h
                refine dw_ald C0 Z dw_kc143 dw_lc143 g24 dX10_takePair_47 ?_
                refine lv_iconst (v := (1 : Int32)) hx hb dX10_takePair_48 (by decide) ?_
                refine lv_icmp_ne (tgt := 71) hx hb dX10_takePair_49 (by decide) (fun c25 => ?_) (fun c25 => ?_)
                · have h := dw_ifF c25 h
                  exact J71 H locs ls Z (lv_sub hl [0, 1, 2, 3] rfl) h
                · have h := dw_ifT c25 h
                  refine lv_aload_n hx hb dX10_takePair_52 rfl (lv_at hl 0 rfl) ?_
                  refine dw_g10_4 (t := 146) C0 Z dw_kc142 tw_fX10_19 rfl dX10_takePair_53 ?_
                  refine lv_iload_n hx hb dX10_takePair_56 rfl (lv_at hl 2 rfl) ?_
                  obtain ⟨g26, h⟩ := dw_gdS h
                  refine dw_ald C0 Z dw_kc146 dw_lc146 g26 dX10_takePair_57 ?_
                  refine lv_aload_n hx hb dX10_takePair_58 rfl (lv_at hl 0 rfl) ?_
                  refine dw_g10_4 (t := 146) C0 Z dw_kc142 tw_fX10_19 rfl dX10_takePair_59 ?_
                  refine lv_iload_n hx hb dX10_takePair_62 rfl (lv_at hl 3 rfl) ?_
                  obtain ⟨g27, h⟩ := dw_gdS h
                  refine dw_ald C0 Z dw_kc146 dw_lc146 g27 dX10_takePair_63 ?_
                  refine lv_icmp_eq (tgt := 71) hx hb dX10_takePair_64 (by decide) (fun c28 => ?_) (fun c28 => ?_)
                  · have h := dw_ifT c28 h
                    exact J71 H locs ls Z (lv_sub hl [0, 1, 2, 3] rfl) h
                  · have h := dw_ifF c28 h
                    refine lv_iconst (v := (1 : Int32)) hx hb dX10_takePair_67 (by decide) ?_
                    refine lv_goto (tgt := 72) hx hb dX10_takePair_68 (by decide) ?_
                    exact J72 (1 : Int32) H locs ls Z (lv_sub hl [0, 1, 2, 3] rfl) h
        exact L16 1000 x1 x4 H locs ls Z (lv_sub hl [1, 2, 3, 0] rfl) h
  exact L4 1000 (-1 : Int32) (0 : Int32) H locs ls Z (lv_sub hl [2, 1, 0] rfl) h

def sX10_findTree_7  (x2 : Int32) (μ3 : dw_M) : Option ((Int32 × dw_M) ⊕ ((dw_M))) :=
  if (36 : Int32) ≤ x2 then (
  some (.inr μ3))
  else (
  dw_gd (dw_ok x2 36) (
  dw_nm (dw_st μ3 146 x2.toNatClampNeg x2) (fun μ6 =>
  dw_nm (x2 + (1 : Int32)) (fun x7 =>
  some (.inl (x7, μ6))))))
def sX10_findTree_28  (x9 : Int32) (μ10 : dw_M) : Option ((Int32 × dw_M) ⊕ ((dw_M))) :=
  if x9 = 0 then (
  some (.inr μ10))
  else (
  dw_b2 (fX10_takePair μ10) (fun r13 μ14 =>
  some (.inl (r13, μ14))))
def fX10_findTree (μ : dw_M) : Option (dw_M) :=
  dw_nm (dw_st μ 142 6 (0 : Int32)) (fun μ1 =>
  dw_bd (dw_wh (fun v => sX10_findTree_7 v.1 v.2) 1000 ((0 : Int32), μ1))
    (fun μ8 => dw_bd (dw_wh (fun v => sX10_findTree_28 v.1 v.2) 1000 ((1 : Int32), μ8))
    (fun μ15 => some μ15)))
set_option maxHeartbeats 4000000 in
set_option maxRecDepth 100000 in
theorem kX10_findTree (l : Launch) (Γ : dw_G) (hj : dw_inj Γ) (μ : dw_M)  {ν : dw_M} (h : fX10_findTree μ = some ν) : Met l yX10_findTree (dw_ws yX10_findTree cX10_findTree 2 none) (dw_rm 3 67) (dw_P Γ ([.ref (dw_ad Γ 142)] : List Value) μ) (dw_Qv Γ ν) 0 0 (dw_A Γ) := by
  refine dw_met (own := RX10) rfl rfl (Nat.le_of_ble_eq_true rfl) hj ?_
  intro p e s m below meth c C0 hr hlk Z ls hl
  have hx := C0.1
  have hb := C0.2.1
  have hl : lv_has ls 2 [(0, .ref (dw_ad Γ 142))] := hl
  suffices key : ∀ (H : Heap) (locs : List Loc), dw_Z Γ (dw_A Γ) s.heap μ H locs → W p l e (dw_rm 3 67) s m ([.ref (dw_ad Γ 142)] : List Value).toArray below meth c H locs 0 0 (MQ below (dw_Qv Γ ν) ([.ref (dw_ad Γ 142)] : List Value).toArray s 0 0 (dw_A Γ)) (F0 m 0 ls []) from key _ _ Z
  clear Z
  intro H locs Z
  unfold fX10_findTree at h
  refine lv_aload_n hx hb dX10_findTree_0 rfl (lv_at hl 0 rfl) ?_
  refine lv_iconst (v := (0 : Int32)) hx hb dX10_findTree_1 (by decide) ?_
  refine dw_p10_6 C0 Z dw_hA dw_kc142 tw_fX10_123 dX10_findTree_2 (fun μ1 eμ1 H locs Z => ?_)
  have h := dw_nmS eμ1 h
  refine lv_iconst (v := (0 : Int32)) hx hb dX10_findTree_5 (by decide) ?_
  refine lv_istore_n (lv' := [(1, .int (0 : Int32)), (0, .ref (dw_ad Γ 142))]) hx hb dX10_findTree_6 rfl hl (by decide) rfl (fun ls hl => ?_)
  obtain ⟨kc7, ekc7, h⟩ := dw_bdK h
  have E7 : ∀ (μ8 : dw_M) (H : Heap) (locs : List Loc) (ls : Array Slot), dw_Z Γ (dw_A Γ) s.heap μ8 H locs → lv_has ls 2 [(0, .ref (dw_ad Γ 142))] → kc7 μ8 = some ν → W p l e (dw_rm 3 67) s m ([.ref (dw_ad Γ 142)] : List Value).toArray below meth c H locs 0 0 (MQ below (dw_Qv Γ ν) ([.ref (dw_ad Γ 142)] : List Value).toArray s 0 0 (dw_A Γ)) (F0 m 26 ls []) := by
    intro μ8 H locs ls Z hl h
    rw [ekc7] at h
    dsimp only at h
    refine lv_iconst (v := (1 : Int32)) hx hb dX10_findTree_26 (by decide) ?_
    refine lv_istore_n (lv' := [(1, .int (1 : Int32)), (0, .ref (dw_ad Γ 142))]) hx hb dX10_findTree_27 rfl hl (by decide) rfl (fun ls hl => ?_)
    obtain ⟨kc28, ekc28, h⟩ := dw_bdK h
    have E28 : ∀ (μ15 : dw_M) (H : Heap) (locs : List Loc) (ls : Array Slot), dw_Z Γ (dw_A Γ) s.heap μ15 H locs → lv_has ls 2 [] → kc28 μ15 = some ν → W p l e (dw_rm 3 67) s m ([.ref (dw_ad Γ 142)] : List Value).toArray below meth c H locs 0 0 (MQ below (dw_Qv Γ ν) ([.ref (dw_ad Γ 142)] : List Value).toArray s 0 0 (dw_A Γ)) (F0 m 40 ls []) := by
      intro μ15 H locs ls Z hl h
      rw [ekc28] at h
      dsimp only at h
      obtain rfl := dw_s1 h
      exact dw_vret C0 Z hr hlk dX10_findTree_40
    have L28 : ∀ (n28 : Nat) (x9 : Int32) (μ10 : dw_M) (H : Heap) (locs : List Loc) (ls : Array Slot), dw_Z Γ (dw_A Γ) s.heap μ10 H locs → lv_has ls 2 [(0, .ref (dw_ad Γ 142)), (1, .int x9)] → dw_bd (dw_wh (fun v => sX10_findTree_28 v.1 v.2) n28 (x9, μ10)) kc28 = some ν → W p l e (dw_rm 3 67) s m ([.ref (dw_ad Γ 142)] : List Value).toArray below meth c H locs 0 0 (MQ below (dw_Qv Γ ν) ([.ref (dw_ad Γ 142)] : List Value).toArray s 0 0 (dw_A Γ)) (F0 m 28 ls []) := by
      clear h
      intro n28
      induction n28 with
      | zero =>
        intro x9 μ10 H locs ls Z hl h
        exact (dw_wh0 h).elim
      | succ n28 ih28 =>
        intro x9 μ10 H locs ls Z hl h
        obtain ⟨q28, hs, hq28⟩ := dw_whB h
        have h : sX10_findTree_28 x9 μ10 = some q28 := hs
        unfold sX10_findTree_28 at h
        refine lv_iload_n hx hb dX10_findTree_28 rfl (lv_at hl 1 rfl) ?_
        refine lv_if_eq (tgt := 40) hx hb dX10_findTree_29 (by decide) (fun c11 => ?_) (fun c11 => ?_)
        · have h := dw_ifT c11 h
          obtain rfl := dw_s1 h
          exact E28  μ10 H locs ls Z (lv_sub hl [] rfl) hq28
        · have h := dw_ifF c11 h
          refine lv_aload_n hx hb dX10_findTree_32 rfl (lv_at hl 0 rfl) ?_
          obtain ⟨r13, μ14, hc12, h⟩ := dw_b2S h
          refine dw_cVi C0 Z dw_hA (dw_lt dw_kc142 (by decide)) (dw_cz10 dw_kc142) rfl (As := []) (rest := []) (kX10_takePair l Γ hj μ10 hc12) (dw_gV tw_lX10_127 tw_vX10_takePair tw_eX10_takePair tw_iX10 tw_kX10_takePair) dw_hX10_takePair ⟨Nat.le_of_ble_eq_true rfl, Nat.le_of_ble_eq_true rfl⟩ ⟨Nat.zero_le _, Nat.zero_le _⟩ hl.1 (Nat.le_of_ble_eq_true rfl) rfl dX10_findTree_33 (fun H locs Z => ?_)
          refine lv_istore_n (lv' := [(1, .int r13), (0, .ref (dw_ad Γ 142))]) hx hb dX10_findTree_36 rfl hl (by decide) rfl (fun ls hl => ?_)
          refine lv_goto (tgt := 28) hx hb dX10_findTree_37 (by decide) ?_
          obtain rfl := dw_s1 h
          exact ih28 r13 μ14 H locs ls Z (lv_sub hl [1, 0] rfl) hq28
    exact L28 1000 (1 : Int32) μ8 H locs ls Z (lv_sub hl [1, 0] rfl) h
  have L7 : ∀ (n7 : Nat) (x2 : Int32) (μ3 : dw_M) (H : Heap) (locs : List Loc) (ls : Array Slot), dw_Z Γ (dw_A Γ) s.heap μ3 H locs → lv_has ls 2 [(0, .ref (dw_ad Γ 142)), (1, .int x2)] → dw_bd (dw_wh (fun v => sX10_findTree_7 v.1 v.2) n7 (x2, μ3)) kc7 = some ν → W p l e (dw_rm 3 67) s m ([.ref (dw_ad Γ 142)] : List Value).toArray below meth c H locs 0 0 (MQ below (dw_Qv Γ ν) ([.ref (dw_ad Γ 142)] : List Value).toArray s 0 0 (dw_A Γ)) (F0 m 7 ls []) := by
    clear h
    intro n7
    induction n7 with
    | zero =>
      intro x2 μ3 H locs ls Z hl h
      exact (dw_wh0 h).elim
    | succ n7 ih7 =>
      intro x2 μ3 H locs ls Z hl h
      obtain ⟨q7, hs, hq7⟩ := dw_whB h
      have h : sX10_findTree_7 x2 μ3 = some q7 := hs
      unfold sX10_findTree_7 at h
      refine lv_iload_n hx hb dX10_findTree_7 rfl (lv_at hl 1 rfl) ?_
      refine lv_bipush (v := (36 : Int32)) hx hb dX10_findTree_8 (by decide) ?_
      refine lv_icmp_ge (tgt := 26) hx hb dX10_findTree_10 (by decide) (fun c4 => ?_) (fun c4 => ?_)
      · have h := dw_ifT c4 h
        obtain rfl := dw_s1 h
        exact E7  μ3 H locs ls Z (lv_sub hl [0] rfl) hq7
      · have h := dw_ifF c4 h
        refine lv_aload_n hx hb dX10_findTree_13 rfl (lv_at hl 0 rfl) ?_
        refine dw_g10_4 (t := 146) C0 Z dw_kc142 tw_fX10_19 rfl dX10_findTree_14 ?_
        refine lv_iload_n hx hb dX10_findTree_17 rfl (lv_at hl 1 rfl) ?_
        refine lv_iload_n hx hb dX10_findTree_18 rfl (lv_at hl 1 rfl) ?_
        obtain ⟨g5, h⟩ := dw_gdS h
        refine dw_ast C0 Z dw_hA dw_kc146 dw_lc146 g5 dX10_findTree_19 (fun μ6 eμ6 H locs Z => ?_)
        have h := dw_nmS eμ6 h
        obtain ⟨x7, ex7⟩ := dw_eg (x2 + (1 : Int32))
        have h := dw_nmS ex7 h
        refine lv_iinc (v := x7) (lv' := [(1, .int x7), (0, .ref (dw_ad Γ 142))]) hx hb dX10_findTree_20 hl (k := 1) rfl (by rw [ex7]; rfl) (by decide) rfl (fun ls hl => ?_)
        refine lv_goto (tgt := 7) hx hb dX10_findTree_23 (by decide) ?_
        obtain rfl := dw_s1 h
        exact ih7 x7 μ6 H locs ls Z (lv_sub hl [1, 0] rfl) hq7
  exact L7 1000 (0 : Int32) μ1 H locs ls Z (lv_sub hl [1, 0] rfl) h

def sX10_tree_8 (μ2 : dw_M) (x3 : Int32) (x4 : Int32) : Option ((Int32 × Int32) ⊕ ((Int32))) :=
  if (μ2.1 142 6) ≤ x4 then (
  some (.inr x3))
  else (
  dw_gd (dw_ok x4 36) (
  dw_bd (fX10_cost μ2 ((μ2.1 147 x4.toNatClampNeg) / (100 : Int32)) (dw_re (μ2.1 147 x4.toNatClampNeg) (100 : Int32))) (fun r8 =>
  dw_nm (x3 + r8) (fun x9 =>
  dw_nm (x4 + (1 : Int32)) (fun x10 =>
  some (.inl (x9, x10)))))))
def fX10_tree (μ : dw_M) : Option (Int32 × dw_M) :=
  dw_bd (fX10_findTree μ) (fun μ2 =>
  dw_bd (dw_wh (fun v => sX10_tree_8 μ2 v.1 v.2) 1000 ((0 : Int32), (0 : Int32)))
    (fun x11 => some (x11, μ2)))
set_option maxHeartbeats 4000000 in
set_option maxRecDepth 100000 in
theorem kX10_tree (l : Launch) (Γ : dw_G) (hj : dw_inj Γ) (μ : dw_M)  {r : Int32} {ν : dw_M} (h : fX10_tree μ = some (r, ν)) : Met l yX10_tree (dw_ws yX10_tree cX10_tree 3 (some .int)) (dw_rm 4 88) (dw_P Γ ([.ref (dw_ad Γ 142)] : List Value) μ) (dw_Qi Γ r ν) 0 0 (dw_A Γ) := by
  refine dw_met (own := RX10) rfl rfl (Nat.le_of_ble_eq_true rfl) hj ?_
  intro p e s m below meth c C0 hr hlk Z ls hl
  have hx := C0.1
  have hb := C0.2.1
  have hl : lv_has ls 3 [(0, .ref (dw_ad Γ 142))] := hl
  suffices key : ∀ (H : Heap) (locs : List Loc), dw_Z Γ (dw_A Γ) s.heap μ H locs → W p l e (dw_rm 4 88) s m ([.ref (dw_ad Γ 142)] : List Value).toArray below meth c H locs 0 0 (MQ below (dw_Qi Γ r ν) ([.ref (dw_ad Γ 142)] : List Value).toArray s 0 0 (dw_A Γ)) (F0 m 0 ls []) from key _ _ Z
  clear Z
  intro H locs Z
  unfold fX10_tree at h
  refine lv_aload_n hx hb dX10_tree_0 rfl (lv_at hl 0 rfl) ?_
  obtain ⟨μ2, hc1, h⟩ := dw_bdS h
  refine dw_cVv C0 Z dw_hA (dw_lt dw_kc142 (by decide)) (dw_cz10 dw_kc142) rfl (As := []) (rest := []) (kX10_findTree l Γ hj μ hc1) (dw_gV tw_lX10_131 tw_vX10_findTree tw_eX10_findTree tw_iX10 tw_kX10_findTree) dw_hX10_findTree ⟨Nat.le_of_ble_eq_true rfl, Nat.le_of_ble_eq_true rfl⟩ ⟨Nat.zero_le _, Nat.zero_le _⟩ hl.1 (Nat.le_of_ble_eq_true rfl) rfl dX10_tree_1 (fun H locs Z => ?_)
  refine lv_iconst (v := (0 : Int32)) hx hb dX10_tree_4 (by decide) ?_
  refine lv_istore_n (lv' := [(1, .int (0 : Int32)), (0, .ref (dw_ad Γ 142))]) hx hb dX10_tree_5 rfl hl (by decide) rfl (fun ls hl => ?_)
  refine lv_iconst (v := (0 : Int32)) hx hb dX10_tree_6 (by decide) ?_
  refine lv_istore_n (lv' := [(2, .int (0 : Int32)), (1, .int (0 : Int32)), (0, .ref (dw_ad Γ 142))]) hx hb dX10_tree_7 rfl hl (by decide) rfl (fun ls hl => ?_)
  obtain ⟨kc8, ekc8, h⟩ := dw_bdK h
  have E8 : ∀ (x11 : Int32) (H : Heap) (locs : List Loc) (ls : Array Slot), dw_Z Γ (dw_A Γ) s.heap μ2 H locs → lv_has ls 3 [(1, .int x11)] → kc8 x11 = some (r, ν) → W p l e (dw_rm 4 88) s m ([.ref (dw_ad Γ 142)] : List Value).toArray below meth c H locs 0 0 (MQ below (dw_Qi Γ r ν) ([.ref (dw_ad Γ 142)] : List Value).toArray s 0 0 (dw_A Γ)) (F0 m 47 ls []) := by
    intro x11 H locs ls Z hl h
    rw [ekc8] at h
    dsimp only at h
    refine lv_iload_n hx hb dX10_tree_47 rfl (lv_at hl 0 rfl) ?_
    obtain ⟨rfl, rfl⟩ := dw_s2 h
    exact dw_iret C0 Z hr hlk dX10_tree_48
  have L8 : ∀ (n8 : Nat) (x3 : Int32) (x4 : Int32) (H : Heap) (locs : List Loc) (ls : Array Slot), dw_Z Γ (dw_A Γ) s.heap μ2 H locs → lv_has ls 3 [(0, .ref (dw_ad Γ 142)), (1, .int x3), (2, .int x4)] → dw_bd (dw_wh (fun v => sX10_tree_8 μ2 v.1 v.2) n8 (x3, x4)) kc8 = some (r, ν) → W p l e (dw_rm 4 88) s m ([.ref (dw_ad Γ 142)] : List Value).toArray below meth c H locs 0 0 (MQ below (dw_Qi Γ r ν) ([.ref (dw_ad Γ 142)] : List Value).toArray s 0 0 (dw_A Γ)) (F0 m 8 ls []) := by
    clear h
    intro n8
    induction n8 with
    | zero =>
      intro x3 x4 H locs ls Z hl h
      exact (dw_wh0 h).elim
    | succ n8 ih8 =>
      intro x3 x4 H locs ls Z hl h
      obtain ⟨q8, hs, hq8⟩ := dw_whB h
      have h : sX10_tree_8 μ2 x3 x4 = some q8 := hs
      unfold sX10_tree_8 at h
      refine lv_iload_n hx hb dX10_tree_8 rfl (lv_at hl 2 rfl) ?_
      refine lv_aload_n hx hb dX10_tree_9 rfl (lv_at hl 0 rfl) ?_
      refine dw_g10_6 C0 Z dw_kc142 tw_fX10_123 dX10_tree_10 ?_
      refine lv_icmp_ge (tgt := 47) hx hb dX10_tree_13 (by decide) (fun c5 => ?_) (fun c5 => ?_)
      · have h := dw_ifT c5 h
        obtain rfl := dw_s1 h
        exact E8 x3 H locs ls Z (lv_sub hl [1] rfl) hq8
      · have h := dw_ifF c5 h
        refine lv_iload_n hx hb dX10_tree_16 rfl (lv_at hl 1 rfl) ?_
        refine lv_aload_n hx hb dX10_tree_17 rfl (lv_at hl 0 rfl) ?_
        refine lv_aload_n hx hb dX10_tree_18 rfl (lv_at hl 0 rfl) ?_
        refine dw_g10_5 (t := 147) C0 Z dw_kc142 tw_fX10_22 rfl dX10_tree_19 ?_
        refine lv_iload_n hx hb dX10_tree_22 rfl (lv_at hl 2 rfl) ?_
        obtain ⟨g6, h⟩ := dw_gdS h
        refine dw_ald C0 Z dw_kc147 dw_lc147 g6 dX10_tree_23 ?_
        refine lv_bipush (v := (100 : Int32)) hx hb dX10_tree_24 (by decide) ?_
        refine lv_idiv hx hb dX10_tree_26 (by decide) ?_
        refine lv_aload_n hx hb dX10_tree_27 rfl (lv_at hl 0 rfl) ?_
        refine dw_g10_5 (t := 147) C0 Z dw_kc142 tw_fX10_22 rfl dX10_tree_28 ?_
        refine lv_iload_n hx hb dX10_tree_31 rfl (lv_at hl 2 rfl) ?_
        refine dw_ald C0 Z dw_kc147 dw_lc147 g6 dX10_tree_32 ?_
        refine lv_bipush (v := (100 : Int32)) hx hb dX10_tree_33 (by decide) ?_
        refine lv_irem hx hb dX10_tree_35 (by decide) ?_
        refine W.eq (g2 := F0 m 36 ls [.int (dw_re (μ2.1 147 x4.toNatClampNeg) (100 : Int32)), .int ((μ2.1 147 x4.toNatClampNeg) / (100 : Int32)), .ref (dw_ad Γ 142), .int x3]) rfl ?_
        obtain ⟨r8, hc7, h⟩ := dw_bdS h
        refine dw_cVi C0 Z dw_hA (dw_lt dw_kc142 (by decide)) (dw_cz10 dw_kc142) rfl (As := [.int ((μ2.1 147 x4.toNatClampNeg) / (100 : Int32)), .int (dw_re (μ2.1 147 x4.toNatClampNeg) (100 : Int32))]) (rest := [.int x3]) (kX10_cost l Γ hj μ2 ((μ2.1 147 x4.toNatClampNeg) / (100 : Int32)) (dw_re (μ2.1 147 x4.toNatClampNeg) (100 : Int32)) hc7) (dw_gV tw_lX10_120 tw_vX10_cost tw_eX10_cost tw_iX10 tw_kX10_cost) dw_hX10_cost ⟨Nat.le_of_ble_eq_true rfl, Nat.le_of_ble_eq_true rfl⟩ ⟨Nat.zero_le _, Nat.zero_le _⟩ hl.1 (Nat.le_of_ble_eq_true rfl) rfl dX10_tree_36 (fun H locs Z => ?_)
        refine lv_iadd hx hb dX10_tree_39 ?_
        refine lv_topi (fun x9 ex9 => ?_)
        have h := dw_nmS ex9 h
        refine lv_istore_n (lv' := [(1, .int x9), (0, .ref (dw_ad Γ 142)), (2, .int x4)]) hx hb dX10_tree_40 rfl hl (by decide) rfl (fun ls hl => ?_)
        obtain ⟨x10, ex10⟩ := dw_eg (x4 + (1 : Int32))
        have h := dw_nmS ex10 h
        refine lv_iinc (v := x10) (lv' := [(2, .int x10), (1, .int x9), (0, .ref (dw_ad Γ 142))]) hx hb dX10_tree_41 hl (k := 2) rfl (by rw [ex10]; rfl) (by decide) rfl (fun ls hl => ?_)
        refine lv_goto (tgt := 8) hx hb dX10_tree_44 (by decide) ?_
        obtain rfl := dw_s1 h
        exact ih8 x9 x10 H locs ls Z (lv_sub hl [2, 1, 0] rfl) hq8
  exact L8 1000 (0 : Int32) (0 : Int32) H locs ls Z (lv_sub hl [2, 1, 0] rfl) h

def fX10_pair (μ : dw_M) (a1 : Int32) : Option (Int32 × dw_M) :=
  dw_bd (fX10_findTree μ) (fun μ2 =>
  if (fX10_in a1 (0 : Int32) ((μ2.1 142 6) - (1 : Int32))) = 0 then (
  some ((-6 : Int32), μ2))
  else (
  dw_gd (dw_ok a1 36) (
  some ((μ2.1 147 a1.toNatClampNeg), μ2))))
set_option maxHeartbeats 4000000 in
set_option maxRecDepth 100000 in
theorem kX10_pair (l : Launch) (Γ : dw_G) (hj : dw_inj Γ) (μ : dw_M) (a1 : Int32) {r : Int32} {ν : dw_M} (h : fX10_pair μ a1 = some (r, ν)) : Met l yX10_pair (dw_ws yX10_pair cX10_pair 2 (some .int)) (dw_rm 4 88) (dw_P Γ ([.ref (dw_ad Γ 142), .int a1] : List Value) μ) (dw_Qi Γ r ν) 0 0 (dw_A Γ) := by
  refine dw_met (own := RX10) rfl rfl (Nat.le_of_ble_eq_true rfl) hj ?_
  intro p e s m below meth c C0 hr hlk Z ls hl
  have hx := C0.1
  have hb := C0.2.1
  have hl : lv_has ls 2 [(0, .ref (dw_ad Γ 142)), (1, .int a1)] := hl
  suffices key : ∀ (H : Heap) (locs : List Loc), dw_Z Γ (dw_A Γ) s.heap μ H locs → W p l e (dw_rm 4 88) s m ([.ref (dw_ad Γ 142), .int a1] : List Value).toArray below meth c H locs 0 0 (MQ below (dw_Qi Γ r ν) ([.ref (dw_ad Γ 142), .int a1] : List Value).toArray s 0 0 (dw_A Γ)) (F0 m 0 ls []) from key _ _ Z
  clear Z
  intro H locs Z
  unfold fX10_pair at h
  refine lv_aload_n hx hb dX10_pair_0 rfl (lv_at hl 0 rfl) ?_
  obtain ⟨μ2, hc1, h⟩ := dw_bdS h
  refine dw_cVv C0 Z dw_hA (dw_lt dw_kc142 (by decide)) (dw_cz10 dw_kc142) rfl (As := []) (rest := []) (kX10_findTree l Γ hj μ hc1) (dw_gV tw_lX10_131 tw_vX10_findTree tw_eX10_findTree tw_iX10 tw_kX10_findTree) dw_hX10_findTree ⟨Nat.le_of_ble_eq_true rfl, Nat.le_of_ble_eq_true rfl⟩ ⟨Nat.zero_le _, Nat.zero_le _⟩ hl.1 (Nat.le_of_ble_eq_true rfl) rfl dX10_pair_1 (fun H locs Z => ?_)
  refine lv_iload_n hx hb dX10_pair_4 rfl (lv_at hl 1 rfl) ?_
  refine lv_iconst (v := (0 : Int32)) hx hb dX10_pair_5 (by decide) ?_
  refine lv_aload_n hx hb dX10_pair_6 rfl (lv_at hl 0 rfl) ?_
  refine dw_g10_6 C0 Z dw_kc142 tw_fX10_123 dX10_pair_7 ?_
  refine lv_iconst (v := (1 : Int32)) hx hb dX10_pair_10 (by decide) ?_
  refine lv_isub hx hb dX10_pair_11 ?_
  refine dw_cSi C0 Z dw_hA (As := [.int a1, .int (0 : Int32), .int ((μ2.1 142 6) - (1 : Int32))]) (rest := []) (kX10_in l Γ hj μ2 a1 (0 : Int32) ((μ2.1 142 6) - (1 : Int32)) rfl) (dw_gS tw_lX10_29 tw_sX10_in tw_iX10 tw_kX10_in) dw_hX10_in ⟨Nat.le_of_ble_eq_true rfl, Nat.le_of_ble_eq_true rfl⟩ ⟨Nat.zero_le _, Nat.zero_le _⟩ hl.1 (Nat.le_of_ble_eq_true rfl) rfl dX10_pair_12 (fun H locs Z => ?_)
  refine lv_if_eq (tgt := 27) hx hb dX10_pair_15 (by decide) (fun c3 => ?_) (fun c3 => ?_)
  · have h := dw_ifT c3 h
    refine lv_bipush (v := (-6 : Int32)) hx hb dX10_pair_27 (by decide) ?_
    obtain ⟨rfl, rfl⟩ := dw_s2 h
    exact dw_iret C0 Z hr hlk dX10_pair_29
  · have h := dw_ifF c3 h
    refine lv_aload_n hx hb dX10_pair_18 rfl (lv_at hl 0 rfl) ?_
    refine dw_g10_5 (t := 147) C0 Z dw_kc142 tw_fX10_22 rfl dX10_pair_19 ?_
    refine lv_iload_n hx hb dX10_pair_22 rfl (lv_at hl 1 rfl) ?_
    obtain ⟨g4, h⟩ := dw_gdS h
    refine dw_ald C0 Z dw_kc147 dw_lc147 g4 dX10_pair_23 ?_
    refine lv_goto (tgt := 29) hx hb dX10_pair_24 (by decide) ?_
    obtain ⟨rfl, rfl⟩ := dw_s2 h
    exact dw_iret C0 Z hr hlk dX10_pair_29

def fX10_sight (μ : dw_M) (a1 : Int32) (a2 : Int32) : Option (Int32 × dw_M) :=
  dw_b2 (fX10_set μ (260 : Int32) a1 a2) (fun r2 μ3 =>
  some (r2, μ3))
set_option maxHeartbeats 4000000 in
set_option maxRecDepth 100000 in
theorem kX10_sight (l : Launch) (Γ : dw_G) (hj : dw_inj Γ) (μ : dw_M) (a1 : Int32) (a2 : Int32) {r : Int32} {ν : dw_M} (h : fX10_sight μ a1 a2 = some (r, ν)) : Met l yX10_sight (dw_ws yX10_sight cX10_sight 3 (some .int)) (dw_rm 3 67) (dw_P Γ ([.ref (dw_ad Γ 142), .int a1, .int a2] : List Value) μ) (dw_Qi Γ r ν) 0 0 (dw_A Γ) := by
  refine dw_met (own := RX10) rfl rfl (Nat.le_of_ble_eq_true rfl) hj ?_
  intro p e s m below meth c C0 hr hlk Z ls hl
  have hx := C0.1
  have hb := C0.2.1
  have hl : lv_has ls 3 [(0, .ref (dw_ad Γ 142)), (1, .int a1), (2, .int a2)] := hl
  suffices key : ∀ (H : Heap) (locs : List Loc), dw_Z Γ (dw_A Γ) s.heap μ H locs → W p l e (dw_rm 3 67) s m ([.ref (dw_ad Γ 142), .int a1, .int a2] : List Value).toArray below meth c H locs 0 0 (MQ below (dw_Qi Γ r ν) ([.ref (dw_ad Γ 142), .int a1, .int a2] : List Value).toArray s 0 0 (dw_A Γ)) (F0 m 0 ls []) from key _ _ Z
  clear Z
  intro H locs Z
  unfold fX10_sight at h
  refine lv_aload_n hx hb dX10_sight_0 rfl (lv_at hl 0 rfl) ?_
  refine lv_sipush (v := (260 : Int32)) hx hb dX10_sight_1 (by decide) ?_
  refine lv_iload_n hx hb dX10_sight_4 rfl (lv_at hl 1 rfl) ?_
  refine lv_iload_n hx hb dX10_sight_5 rfl (lv_at hl 2 rfl) ?_
  obtain ⟨r2, μ3, hc1, h⟩ := dw_b2S h
  refine dw_cVi C0 Z dw_hA (dw_lt dw_kc142 (by decide)) (dw_cz10 dw_kc142) rfl (As := [.int (260 : Int32), .int a1, .int a2]) (rest := []) (kX10_set l Γ hj μ (260 : Int32) a1 a2 hc1) (dw_gV tw_lX10_116 tw_vX10_set tw_eX10_set tw_iX10 tw_kX10_set) dw_hX10_set ⟨Nat.le_of_ble_eq_true rfl, Nat.le_of_ble_eq_true rfl⟩ ⟨Nat.zero_le _, Nat.zero_le _⟩ hl.1 (Nat.le_of_ble_eq_true rfl) rfl dX10_sight_6 (fun H locs Z => ?_)
  obtain ⟨rfl, rfl⟩ := dw_s2 h
  exact dw_iret C0 Z hr hlk dX10_sight_9

def sX10_see_4  (x1 : Int32) (x2 : Int32) (μ3 : dw_M) : Option ((Int32 × Int32 × dw_M) ⊕ ((Int32 × dw_M))) :=
  if (fX10_places μ3) ≤ x2 then (
  some (.inr (x1, μ3)))
  else (
  dw_gd (dw_ok ((100 : Int32) + x2) 800) (
  dw_jm (fun (x6 : Int32) =>
  dw_gd (dw_ok ((260 : Int32) + x2) 800) (
  dw_nm (dw_st μ3 143 ((260 : Int32) + x2).toNatClampNeg x6) (fun μ8 =>
  dw_nm (x1 + (μ8.1 143 ((260 : Int32) + x2).toNatClampNeg)) (fun x9 =>
  dw_nm (x2 + (1 : Int32)) (fun x10 =>
  some (.inl (x9, x10, μ8))))))) (fun k38 =>
  if (μ3.1 143 ((100 : Int32) + x2).toNatClampNeg) ≤ 0 then (
  k38 (0 : Int32))
  else (
  k38 (1 : Int32)))))
def fX10_see (μ : dw_M) : Option (Int32 × dw_M) :=
  dw_bd (dw_wh (fun v => sX10_see_4 v.1 v.2.1 v.2.2) 1000 ((0 : Int32), (0 : Int32), μ))
    (fun v => (fun x12 μ13 => some (x12, μ13)) v.1 v.2)
set_option maxHeartbeats 4000000 in
set_option maxRecDepth 100000 in
theorem kX10_see (l : Launch) (Γ : dw_G) (hj : dw_inj Γ) (μ : dw_M)  {r : Int32} {ν : dw_M} (h : fX10_see μ = some (r, ν)) : Met l yX10_see (dw_ws yX10_see cX10_see 3 (some .int)) (dw_rm 1 20) (dw_P Γ ([.ref (dw_ad Γ 142)] : List Value) μ) (dw_Qi Γ r ν) 0 0 (dw_A Γ) := by
  refine dw_met (own := RX10) rfl rfl (Nat.le_of_ble_eq_true rfl) hj ?_
  intro p e s m below meth c C0 hr hlk Z ls hl
  have hx := C0.1
  have hb := C0.2.1
  have hl : lv_has ls 3 [(0, .ref (dw_ad Γ 142))] := hl
  suffices key : ∀ (H : Heap) (locs : List Loc), dw_Z Γ (dw_A Γ) s.heap μ H locs → W p l e (dw_rm 1 20) s m ([.ref (dw_ad Γ 142)] : List Value).toArray below meth c H locs 0 0 (MQ below (dw_Qi Γ r ν) ([.ref (dw_ad Γ 142)] : List Value).toArray s 0 0 (dw_A Γ)) (F0 m 0 ls []) from key _ _ Z
  clear Z
  intro H locs Z
  unfold fX10_see at h
  refine lv_iconst (v := (0 : Int32)) hx hb dX10_see_0 (by decide) ?_
  refine lv_istore_n (lv' := [(1, .int (0 : Int32)), (0, .ref (dw_ad Γ 142))]) hx hb dX10_see_1 rfl hl (by decide) rfl (fun ls hl => ?_)
  refine lv_iconst (v := (0 : Int32)) hx hb dX10_see_2 (by decide) ?_
  refine lv_istore_n (lv' := [(2, .int (0 : Int32)), (1, .int (0 : Int32)), (0, .ref (dw_ad Γ 142))]) hx hb dX10_see_3 rfl hl (by decide) rfl (fun ls hl => ?_)
  obtain ⟨kc4, ekc4, h⟩ := dw_bdK h
  have E4 : ∀ (x12 : Int32) (μ13 : dw_M) (H : Heap) (locs : List Loc) (ls : Array Slot), dw_Z Γ (dw_A Γ) s.heap μ13 H locs → lv_has ls 3 [(1, .int x12)] → kc4 (x12, μ13) = some (r, ν) → W p l e (dw_rm 1 20) s m ([.ref (dw_ad Γ 142)] : List Value).toArray below meth c H locs 0 0 (MQ below (dw_Qi Γ r ν) ([.ref (dw_ad Γ 142)] : List Value).toArray s 0 0 (dw_A Γ)) (F0 m 58 ls []) := by
    intro x12 μ13 H locs ls Z hl h
    rw [ekc4] at h
    dsimp only at h
    refine lv_iload_n hx hb dX10_see_58 rfl (lv_at hl 0 rfl) ?_
    obtain ⟨rfl, rfl⟩ := dw_s2 h
    exact dw_iret C0 Z hr hlk dX10_see_59
  have L4 : ∀ (n4 : Nat) (x1 : Int32) (x2 : Int32) (μ3 : dw_M) (H : Heap) (locs : List Loc) (ls : Array Slot), dw_Z Γ (dw_A Γ) s.heap μ3 H locs → lv_has ls 3 [(0, .ref (dw_ad Γ 142)), (1, .int x1), (2, .int x2)] → dw_bd (dw_wh (fun v => sX10_see_4 v.1 v.2.1 v.2.2) n4 (x1, x2, μ3)) kc4 = some (r, ν) → W p l e (dw_rm 1 20) s m ([.ref (dw_ad Γ 142)] : List Value).toArray below meth c H locs 0 0 (MQ below (dw_Qi Γ r ν) ([.ref (dw_ad Γ 142)] : List Value).toArray s 0 0 (dw_A Γ)) (F0 m 4 ls []) := by
    clear h
    intro n4
    induction n4 with
    | zero =>
      intro x1 x2 μ3 H locs ls Z hl h
      exact (dw_wh0 h).elim
    | succ n4 ih4 =>
      intro x1 x2 μ3 H locs ls Z hl h
      obtain ⟨q4, hs, hq4⟩ := dw_whB h
      have h : sX10_see_4 x1 x2 μ3 = some q4 := hs
      unfold sX10_see_4 at h
      refine lv_iload_n hx hb dX10_see_4 rfl (lv_at hl 2 rfl) ?_
      refine lv_aload_n hx hb dX10_see_5 rfl (lv_at hl 0 rfl) ?_
      refine dw_cVi C0 Z dw_hA (dw_lt dw_kc142 (by decide)) (dw_cz10 dw_kc142) rfl (As := []) (rest := [.int x2]) (kX10_places l Γ hj μ3 rfl) (dw_gV tw_lX10_25 tw_vX10_places tw_eX10_places tw_iX10 tw_kX10_places) dw_hX10_places ⟨Nat.le_of_ble_eq_true rfl, Nat.le_of_ble_eq_true rfl⟩ ⟨Nat.zero_le _, Nat.zero_le _⟩ hl.1 (Nat.le_of_ble_eq_true rfl) rfl dX10_see_6 (fun H locs Z => ?_)
      refine lv_icmp_ge (tgt := 58) hx hb dX10_see_9 (by decide) (fun c4 => ?_) (fun c4 => ?_)
      · have h := dw_ifT c4 h
        obtain rfl := dw_s1 h
        exact E4 x1 μ3 H locs ls Z (lv_sub hl [1] rfl) hq4
      · have h := dw_ifF c4 h
        refine lv_aload_n hx hb dX10_see_12 rfl (lv_at hl 0 rfl) ?_
        refine dw_g10_0 (t := 143) C0 Z dw_kc142 tw_fX10_7 rfl dX10_see_13 ?_
        refine lv_sipush (v := (260 : Int32)) hx hb dX10_see_16 (by decide) ?_
        refine lv_iload_n hx hb dX10_see_19 rfl (lv_at hl 2 rfl) ?_
        refine lv_iadd hx hb dX10_see_20 ?_
        refine lv_aload_n hx hb dX10_see_21 rfl (lv_at hl 0 rfl) ?_
        refine dw_g10_0 (t := 143) C0 Z dw_kc142 tw_fX10_7 rfl dX10_see_22 ?_
        refine lv_bipush (v := (100 : Int32)) hx hb dX10_see_25 (by decide) ?_
        refine lv_iload_n hx hb dX10_see_27 rfl (lv_at hl 2 rfl) ?_
        refine lv_iadd hx hb dX10_see_28 ?_
        obtain ⟨g5, h⟩ := dw_gdS h
        refine dw_ald C0 Z dw_kc143 dw_lc143 g5 dX10_see_29 ?_
        obtain ⟨k38, ek38, h⟩ := dw_jnS h
        have J38 : ∀ (x6 : Int32) (H : Heap) (locs : List Loc) (ls : Array Slot), dw_Z Γ (dw_A Γ) s.heap μ3 H locs → lv_has ls 3 [(0, .ref (dw_ad Γ 142)), (1, .int x1), (2, .int x2)] → k38 x6 = some q4 → W p l e (dw_rm 1 20) s m ([.ref (dw_ad Γ 142)] : List Value).toArray below meth c H locs 0 0 (MQ below (dw_Qi Γ r ν) ([.ref (dw_ad Γ 142)] : List Value).toArray s 0 0 (dw_A Γ)) (F0 m 38 ls [.int x6, .int ((260 : Int32) + x2), .ref (dw_ad Γ 143)]) := by
          clear h
          intro x6 H locs ls Z hl h
          rw [ek38] at h
          dsimp only at h
          obtain ⟨g7, h⟩ := dw_gdS h
          refine dw_ast C0 Z dw_hA dw_kc143 dw_lc143 g7 dX10_see_38 (fun μ8 eμ8 H locs Z => ?_)
          have h := dw_nmS eμ8 h
          refine lv_iload_n hx hb dX10_see_39 rfl (lv_at hl 1 rfl) ?_
          refine lv_aload_n hx hb dX10_see_40 rfl (lv_at hl 0 rfl) ?_
          refine dw_g10_0 (t := 143) C0 Z dw_kc142 tw_fX10_7 rfl dX10_see_41 ?_
          refine lv_sipush (v := (260 : Int32)) hx hb dX10_see_44 (by decide) ?_
          refine lv_iload_n hx hb dX10_see_47 rfl (lv_at hl 2 rfl) ?_
          refine lv_iadd hx hb dX10_see_48 ?_
          refine dw_ald C0 Z dw_kc143 dw_lc143 g7 dX10_see_49 ?_
          refine lv_iadd hx hb dX10_see_50 ?_
          refine lv_topi (fun x9 ex9 => ?_)
          have h := dw_nmS ex9 h
          refine lv_istore_n (lv' := [(1, .int x9), (0, .ref (dw_ad Γ 142)), (2, .int x2)]) hx hb dX10_see_51 rfl hl (by decide) rfl (fun ls hl => ?_)
          obtain ⟨x10, ex10⟩ := dw_eg (x2 + (1 : Int32))
          have h := dw_nmS ex10 h
          refine lv_iinc (v := x10) (lv' := [(2, .int x10), (1, .int x9), (0, .ref (dw_ad Γ 142))]) hx hb dX10_see_52 hl (k := 2) rfl (by rw [ex10]; rfl) (by decide) rfl (fun ls hl => ?_)
          refine lv_goto (tgt := 4) hx hb dX10_see_55 (by decide) ?_
          obtain rfl := dw_s1 h
          exact ih4 x9 x10 μ8 H locs ls Z (lv_sub hl [2, 1, 0] rfl) hq4
        refine lv_if_le (tgt := 37) hx hb dX10_see_30 (by decide) (fun c11 => ?_) (fun c11 => ?_)
        · have h := dw_ifT c11 h
          refine lv_iconst (v := (0 : Int32)) hx hb dX10_see_37 (by decide) ?_
          exact J38 (0 : Int32) H locs ls Z (lv_sub hl [0, 1, 2] rfl) h
        · have h := dw_ifF c11 h
          refine lv_iconst (v := (1 : Int32)) hx hb dX10_see_33 (by decide) ?_
          refine lv_goto (tgt := 38) hx hb dX10_see_34 (by decide) ?_
          exact J38 (1 : Int32) H locs ls Z (lv_sub hl [0, 1, 2] rfl) h
  exact L4 1000 (0 : Int32) (0 : Int32) μ H locs ls Z (lv_sub hl [2, 1, 0] rfl) h
