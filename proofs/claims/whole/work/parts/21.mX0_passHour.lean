def sX0_passHour_2 (i : Nat) (x1 : Int32) (μ2 : dw_M) : Option ((Int32 × dw_M) ⊕ ((dw_M))) :=
  if (μ2.1 2 1) ≤ x1 then (
  some (.inr μ2))
  else (
  dw_bd (fX0_wetPlace μ2 i x1) (fun μ5 =>
  dw_bd (fX0_drainPlace μ5 i x1) (fun μ7 =>
  dw_nm (x1 + (1 : Int32)) (fun x8 =>
  some (.inl (x8, μ7))))))
def sX0_passHour_46 (i : Nat) (x10 : Int32) (x13 : Int32) (μ14 : dw_M) : Option ((Int32 × dw_M) ⊕ ((dw_M))) :=
  if (μ14.1 11 1) ≤ x13 then (
  some (.inr μ14))
  else (
  dw_gd (dw_ok x13 20) (
  if (μ14.1 136 x13.toNatClampNeg) = x10 then (
  dw_bd (fX0_passOn μ14 i x13) (fun μ20 =>
  dw_nm (x13 + (1 : Int32)) (fun x21 =>
  some (.inl (x21, μ20)))))
  else (
  dw_nm (x13 + (1 : Int32)) (fun x18 =>
  some (.inl (x18, μ14))))))
def sX0_passHour_35 (i : Nat) (x10 : Int32) (μ11 : dw_M) : Option ((Int32 × dw_M) ⊕ ((dw_M))) :=
  if (μ11.1 135 1) < x10 then (
  some (.inr μ11))
  else (
  dw_bd (dw_wh (fun v => sX0_passHour_46 i x10 v.1 v.2) 1000 ((0 : Int32), μ11))
    (fun μ22 => dw_nm (x10 + (1 : Int32)) (fun x23 =>
  some (.inl (x23, μ22)))))
def sX0_passHour_91 (i : Nat) (x25 : Int32) (μ26 : dw_M) : Option ((Int32 × dw_M) ⊕ ((dw_M))) :=
  if (μ26.1 11 1) ≤ x25 then (
  some (.inr μ26))
  else (
  dw_gd (dw_ok x25 20) (
  dw_nm (dw_st μ26 (i + 4) x25.toNatClampNeg (dw_mx (0 : Int32) ((μ26.1 (i + 4) x25.toNatClampNeg) - (1 : Int32)))) (fun μ29 =>
  dw_nm (x25 + (1 : Int32)) (fun x30 =>
  some (.inl (x30, μ29))))))
def fX0_passHour (μ : dw_M) (i : Nat) : Option (dw_M) :=
  dw_bd (dw_wh (fun v => sX0_passHour_2 i v.1 v.2) 1000 ((0 : Int32), μ))
    (fun μ9 => dw_bd (dw_wh (fun v => sX0_passHour_35 i v.1 v.2) 1000 ((0 : Int32), μ9))
    (fun μ24 => dw_bd (dw_wh (fun v => sX0_passHour_91 i v.1 v.2) 1000 ((0 : Int32), μ24))
    (fun μ31 => dw_nm (dw_st μ31 i 8 ((μ31.1 i 8) + (1 : Int32))) (fun μ32 =>
  some μ32))))
set_option maxHeartbeats 4000000 in
set_option maxRecDepth 100000 in
theorem kX0_passHour (l : Launch) (Γ : dw_G) (hj : dw_inj Γ) (μ : dw_M) (i : Nat) (hk_i : dw_kd i = 8) {ν : dw_M} (h : fX0_passHour μ i = some ν) : Met l yX0_passHour (dw_ws yX0_passHour cX0_passHour 5 none) (dw_rm 3 74) (dw_P Γ ([.ref (dw_ad Γ 135), .ref (dw_ad Γ 1), .ref (dw_ad Γ i)] : List Value) μ) (dw_Qv Γ ν) 0 0 (dw_A Γ) := by
  refine dw_met (own := RX0) rfl rfl (Nat.le_of_ble_eq_true rfl) hj ?_
  intro p e s m below meth c C0 hr hlk Z ls hl
  have hx := C0.1
  have hb := C0.2.1
  have hl : lv_has ls 5 [(0, .ref (dw_ad Γ 135)), (1, .ref (dw_ad Γ 1)), (2, .ref (dw_ad Γ i))] := hl
  suffices key : ∀ (H : Heap) (locs : List Loc), dw_Z Γ (dw_A Γ) s.heap μ H locs → W p l e (dw_rm 3 74) s m ([.ref (dw_ad Γ 135), .ref (dw_ad Γ 1), .ref (dw_ad Γ i)] : List Value).toArray below meth c H locs 0 0 (MQ below (dw_Qv Γ ν) ([.ref (dw_ad Γ 135), .ref (dw_ad Γ 1), .ref (dw_ad Γ i)] : List Value).toArray s 0 0 (dw_A Γ)) (F0 m 0 ls []) from key _ _ Z
  clear Z
  intro H locs Z
  unfold fX0_passHour at h
  refine lv_iconst (v := (0 : Int32)) hx hb dX0_passHour_0 (by decide) ?_
  refine lv_istore_n (lv' := [(3, .int (0 : Int32)), (0, .ref (dw_ad Γ 135)), (1, .ref (dw_ad Γ 1)), (2, .ref (dw_ad Γ i))]) hx hb dX0_passHour_1 rfl hl (by decide) rfl (fun ls hl => ?_)
  obtain ⟨kc2, ekc2, h⟩ := dw_bdK h
  have E2 : ∀ (μ9 : dw_M) (H : Heap) (locs : List Loc) (ls : Array Slot), dw_Z Γ (dw_A Γ) s.heap μ9 H locs → lv_has ls 5 [(0, .ref (dw_ad Γ 135)), (1, .ref (dw_ad Γ 1)), (2, .ref (dw_ad Γ i))] → kc2 μ9 = some ν → W p l e (dw_rm 3 74) s m ([.ref (dw_ad Γ 135), .ref (dw_ad Γ 1), .ref (dw_ad Γ i)] : List Value).toArray below meth c H locs 0 0 (MQ below (dw_Qv Γ ν) ([.ref (dw_ad Γ 135), .ref (dw_ad Γ 1), .ref (dw_ad Γ i)] : List Value).toArray s 0 0 (dw_A Γ)) (F0 m 33 ls []) := by
    intro μ9 H locs ls Z hl h
    rw [ekc2] at h
    dsimp only at h
    refine lv_iconst (v := (0 : Int32)) hx hb dX0_passHour_33 (by decide) ?_
    refine lv_istore_n (lv' := [(3, .int (0 : Int32)), (0, .ref (dw_ad Γ 135)), (1, .ref (dw_ad Γ 1)), (2, .ref (dw_ad Γ i))]) hx hb dX0_passHour_34 rfl hl (by decide) rfl (fun ls hl => ?_)
    obtain ⟨kc35, ekc35, h⟩ := dw_bdK h
    have E35 : ∀ (μ24 : dw_M) (H : Heap) (locs : List Loc) (ls : Array Slot), dw_Z Γ (dw_A Γ) s.heap μ24 H locs → lv_has ls 5 [(1, .ref (dw_ad Γ 1)), (2, .ref (dw_ad Γ i))] → kc35 μ24 = some ν → W p l e (dw_rm 3 74) s m ([.ref (dw_ad Γ 135), .ref (dw_ad Γ 1), .ref (dw_ad Γ i)] : List Value).toArray below meth c H locs 0 0 (MQ below (dw_Qv Γ ν) ([.ref (dw_ad Γ 135), .ref (dw_ad Γ 1), .ref (dw_ad Γ i)] : List Value).toArray s 0 0 (dw_A Γ)) (F0 m 89 ls []) := by
      intro μ24 H locs ls Z hl h
      rw [ekc35] at h
      dsimp only at h
      refine lv_iconst (v := (0 : Int32)) hx hb dX0_passHour_89 (by decide) ?_
      refine lv_istore_n (lv' := [(3, .int (0 : Int32)), (1, .ref (dw_ad Γ 1)), (2, .ref (dw_ad Γ i))]) hx hb dX0_passHour_90 rfl hl (by decide) rfl (fun ls hl => ?_)
      obtain ⟨kc91, ekc91, h⟩ := dw_bdK h
      have E91 : ∀ (μ31 : dw_M) (H : Heap) (locs : List Loc) (ls : Array Slot), dw_Z Γ (dw_A Γ) s.heap μ31 H locs → lv_has ls 5 [(2, .ref (dw_ad Γ i))] → kc91 μ31 = some ν → W p l e (dw_rm 3 74) s m ([.ref (dw_ad Γ 135), .ref (dw_ad Γ 1), .ref (dw_ad Γ i)] : List Value).toArray below meth c H locs 0 0 (MQ below (dw_Qv Γ ν) ([.ref (dw_ad Γ 135), .ref (dw_ad Γ 1), .ref (dw_ad Γ i)] : List Value).toArray s 0 0 (dw_A Γ)) (F0 m 126 ls []) := by
        intro μ31 H locs ls Z hl h
        rw [ekc91] at h
        dsimp only at h
        refine lv_aload_n hx hb dX0_passHour_126 rfl (lv_at hl 0 rfl) ?_
        refine lv_dup hx hb dX0_passHour_127 rfl ?_
        refine dw_g8_8 C0 Z hk_i tw_fX0_93 dX0_passHour_128 ?_
        refine lv_iconst (v := (1 : Int32)) hx hb dX0_passHour_131 (by decide) ?_
        refine lv_iadd hx hb dX0_passHour_132 ?_
        refine dw_p8_8 C0 Z dw_hA hk_i tw_fX0_93 dX0_passHour_133 (fun μ32 eμ32 H locs Z => ?_)
        have h := dw_nmS eμ32 h
        obtain rfl := dw_s1 h
        exact dw_vret C0 Z hr hlk dX0_passHour_136
      have L91 : ∀ (n91 : Nat) (x25 : Int32) (μ26 : dw_M) (H : Heap) (locs : List Loc) (ls : Array Slot), dw_Z Γ (dw_A Γ) s.heap μ26 H locs → lv_has ls 5 [(1, .ref (dw_ad Γ 1)), (2, .ref (dw_ad Γ i)), (3, .int x25)] → dw_bd (dw_wh (fun v => sX0_passHour_91 i v.1 v.2) n91 (x25, μ26)) kc91 = some ν → W p l e (dw_rm 3 74) s m ([.ref (dw_ad Γ 135), .ref (dw_ad Γ 1), .ref (dw_ad Γ i)] : List Value).toArray below meth c H locs 0 0 (MQ below (dw_Qv Γ ν) ([.ref (dw_ad Γ 135), .ref (dw_ad Γ 1), .ref (dw_ad Γ i)] : List Value).toArray s 0 0 (dw_A Γ)) (F0 m 91 ls []) := by
        clear h
        intro n91
        induction n91 with
        | zero =>
          intro x25 μ26 H locs ls Z hl h
          exact (dw_wh0 h).elim
        | succ n91 ih91 =>
          intro x25 μ26 H locs ls Z hl h
          obtain ⟨q91, hs, hq91⟩ := dw_whB h
          have h : sX0_passHour_91 i x25 μ26 = some q91 := hs
          unfold sX0_passHour_91 at h
          refine lv_iload_n hx hb dX0_passHour_91 rfl (lv_at hl 2 rfl) ?_
          refine lv_aload_n hx hb dX0_passHour_92 rfl (lv_at hl 0 rfl) ?_
          refine dw_g6_2 (t := 11) C0 Z dw_kc1 tw_fX0_81 rfl dX0_passHour_93 ?_
          refine dw_g4_1 C0 Z dw_kc11 tw_fX0_29 dX0_passHour_96 ?_
          refine lv_icmp_ge (tgt := 126) hx hb dX0_passHour_99 (by decide) (fun c27 => ?_) (fun c27 => ?_)
          · have h := dw_ifT c27 h
            obtain rfl := dw_s1 h
            exact E91  μ26 H locs ls Z (lv_sub hl [1] rfl) hq91
          · have h := dw_ifF c27 h
            refine lv_aload_n hx hb dX0_passHour_102 rfl (lv_at hl 1 rfl) ?_
            refine dw_g8_3 (t := (i + 4)) C0 Z hk_i tw_fX0_88 rfl dX0_passHour_103 ?_
            refine lv_iload_n hx hb dX0_passHour_106 rfl (lv_at hl 2 rfl) ?_
            refine lv_iconst (v := (0 : Int32)) hx hb dX0_passHour_107 (by decide) ?_
            refine lv_aload_n hx hb dX0_passHour_108 rfl (lv_at hl 1 rfl) ?_
            refine dw_g8_3 (t := (i + 4)) C0 Z hk_i tw_fX0_88 rfl dX0_passHour_109 ?_
            refine lv_iload_n hx hb dX0_passHour_112 rfl (lv_at hl 2 rfl) ?_
            obtain ⟨g28, h⟩ := dw_gdS h
            refine dw_ald C0 Z (dw_r8_3 hk_i) (dw_n8_3 hk_i) g28 dX0_passHour_113 ?_
            refine lv_iconst (v := (1 : Int32)) hx hb dX0_passHour_114 (by decide) ?_
            refine lv_isub hx hb dX0_passHour_115 ?_
            refine dw_mmax C0 hl.1 tw_lX0_38 (Nat.le_of_ble_eq_true rfl) (Nat.le_of_ble_eq_true rfl) ⟨Nat.zero_le _, Nat.zero_le _⟩ dX0_passHour_116 ?_
            refine dw_ast C0 Z dw_hA (dw_r8_3 hk_i) (dw_n8_3 hk_i) g28 dX0_passHour_119 (fun μ29 eμ29 H locs Z => ?_)
            have h := dw_nmS eμ29 h
            obtain ⟨x30, ex30⟩ := dw_eg (x25 + (1 : Int32))
            have h := dw_nmS ex30 h
            refine lv_iinc (v := x30) (lv' := [(3, .int x30), (1, .ref (dw_ad Γ 1)), (2, .ref (dw_ad Γ i))]) hx hb dX0_passHour_120 hl (k := 2) rfl (by rw [ex30]; rfl) (by decide) rfl (fun ls hl => ?_)
            refine lv_goto (tgt := 91) hx hb dX0_passHour_123 (by decide) ?_
            obtain rfl := dw_s1 h
            exact ih91 x30 μ29 H locs ls Z (lv_sub hl [1, 2, 0] rfl) hq91
      exact L91 1000 (0 : Int32) μ24 H locs ls Z (lv_sub hl [1, 2, 0] rfl) h
    have L35 : ∀ (n35 : Nat) (x10 : Int32) (μ11 : dw_M) (H : Heap) (locs : List Loc) (ls : Array Slot), dw_Z Γ (dw_A Γ) s.heap μ11 H locs → lv_has ls 5 [(0, .ref (dw_ad Γ 135)), (1, .ref (dw_ad Γ 1)), (2, .ref (dw_ad Γ i)), (3, .int x10)] → dw_bd (dw_wh (fun v => sX0_passHour_35 i v.1 v.2) n35 (x10, μ11)) kc35 = some ν → W p l e (dw_rm 3 74) s m ([.ref (dw_ad Γ 135), .ref (dw_ad Γ 1), .ref (dw_ad Γ i)] : List Value).toArray below meth c H locs 0 0 (MQ below (dw_Qv Γ ν) ([.ref (dw_ad Γ 135), .ref (dw_ad Γ 1), .ref (dw_ad Γ i)] : List Value).toArray s 0 0 (dw_A Γ)) (F0 m 35 ls []) := by
      clear h
      intro n35
      induction n35 with
      | zero =>
        intro x10 μ11 H locs ls Z hl h
        exact (dw_wh0 h).elim
      | succ n35 ih35 =>
        intro x10 μ11 H locs ls Z hl h
        obtain ⟨q35, hs, hq35⟩ := dw_whB h
        have h : sX0_passHour_35 i x10 μ11 = some q35 := hs
        unfold sX0_passHour_35 at h
        refine lv_iload_n hx hb dX0_passHour_35 rfl (lv_at hl 3 rfl) ?_
        refine lv_aload_n hx hb dX0_passHour_36 rfl (lv_at hl 0 rfl) ?_
        refine dw_g0_1 C0 Z dw_kc135 tw_fX0_25 dX0_passHour_37 ?_
        refine lv_icmp_gt (tgt := 89) hx hb dX0_passHour_40 (by decide) (fun c12 => ?_) (fun c12 => ?_)
        · have h := dw_ifT c12 h
          obtain rfl := dw_s1 h
          exact E35  μ11 H locs ls Z (lv_sub hl [1, 2] rfl) hq35
        · have h := dw_ifF c12 h
          refine lv_iconst (v := (0 : Int32)) hx hb dX0_passHour_43 (by decide) ?_
          refine lv_istore (lv' := [(4, .int (0 : Int32)), (0, .ref (dw_ad Γ 135)), (1, .ref (dw_ad Γ 1)), (2, .ref (dw_ad Γ i)), (3, .int x10)]) hx hb dX0_passHour_44 hl (by decide) rfl (fun ls hl => ?_)
          obtain ⟨kc46, ekc46, h⟩ := dw_bdK h
          have E46 : ∀ (μ22 : dw_M) (H : Heap) (locs : List Loc) (ls : Array Slot), dw_Z Γ (dw_A Γ) s.heap μ22 H locs → lv_has ls 5 [(0, .ref (dw_ad Γ 135)), (1, .ref (dw_ad Γ 1)), (2, .ref (dw_ad Γ i)), (3, .int x10)] → kc46 μ22 = some q35 → W p l e (dw_rm 3 74) s m ([.ref (dw_ad Γ 135), .ref (dw_ad Γ 1), .ref (dw_ad Γ i)] : List Value).toArray below meth c H locs 0 0 (MQ below (dw_Qv Γ ν) ([.ref (dw_ad Γ 135), .ref (dw_ad Γ 1), .ref (dw_ad Γ i)] : List Value).toArray s 0 0 (dw_A Γ)) (F0 m 83 ls []) := by
            intro μ22 H locs ls Z hl h
            rw [ekc46] at h
            dsimp only at h
            obtain ⟨x23, ex23⟩ := dw_eg (x10 + (1 : Int32))
            have h := dw_nmS ex23 h
            refine lv_iinc (v := x23) (lv' := [(3, .int x23), (0, .ref (dw_ad Γ 135)), (1, .ref (dw_ad Γ 1)), (2, .ref (dw_ad Γ i))]) hx hb dX0_passHour_83 hl (k := 3) rfl (by rw [ex23]; rfl) (by decide) rfl (fun ls hl => ?_)
            refine lv_goto (tgt := 35) hx hb dX0_passHour_86 (by decide) ?_
            obtain rfl := dw_s1 h
            exact ih35 x23 μ22 H locs ls Z (lv_sub hl [1, 2, 3, 0] rfl) hq35
          have L46 : ∀ (n46 : Nat) (x13 : Int32) (μ14 : dw_M) (H : Heap) (locs : List Loc) (ls : Array Slot), dw_Z Γ (dw_A Γ) s.heap μ14 H locs → lv_has ls 5 [(0, .ref (dw_ad Γ 135)), (1, .ref (dw_ad Γ 1)), (2, .ref (dw_ad Γ i)), (3, .int x10), (4, .int x13)] → dw_bd (dw_wh (fun v => sX0_passHour_46 i x10 v.1 v.2) n46 (x13, μ14)) kc46 = some q35 → W p l e (dw_rm 3 74) s m ([.ref (dw_ad Γ 135), .ref (dw_ad Γ 1), .ref (dw_ad Γ i)] : List Value).toArray below meth c H locs 0 0 (MQ below (dw_Qv Γ ν) ([.ref (dw_ad Γ 135), .ref (dw_ad Γ 1), .ref (dw_ad Γ i)] : List Value).toArray s 0 0 (dw_A Γ)) (F0 m 46 ls []) := by
            clear h
            intro n46
            induction n46 with
            | zero =>
              intro x13 μ14 H locs ls Z hl h
              exact (dw_wh0 h).elim
            | succ n46 ih46 =>
              intro x13 μ14 H locs ls Z hl h
              obtain ⟨q46, hs, hq46⟩ := dw_whB h
              have h : sX0_passHour_46 i x10 x13 μ14 = some q46 := hs
              unfold sX0_passHour_46 at h
              refine lv_iload hx hb dX0_passHour_46 (lv_at hl 4 rfl) ?_
              refine lv_aload_n hx hb dX0_passHour_48 rfl (lv_at hl 1 rfl) ?_
              refine dw_g6_2 (t := 11) C0 Z dw_kc1 tw_fX0_81 rfl dX0_passHour_49 ?_
              refine dw_g4_1 C0 Z dw_kc11 tw_fX0_29 dX0_passHour_52 ?_
              refine lv_icmp_ge (tgt := 83) hx hb dX0_passHour_55 (by decide) (fun c15 => ?_) (fun c15 => ?_)
              · have h := dw_ifT c15 h
                obtain rfl := dw_s1 h
                exact E46  μ14 H locs ls Z (lv_sub hl [0, 1, 2, 3] rfl) hq46
              · have h := dw_ifF c15 h
                refine lv_aload_n hx hb dX0_passHour_58 rfl (lv_at hl 0 rfl) ?_
                refine dw_g0_0 (t := 136) C0 Z dw_kc135 tw_fX0_9 rfl dX0_passHour_59 ?_
                refine lv_iload hx hb dX0_passHour_62 (lv_at hl 4 rfl) ?_
                obtain ⟨g16, h⟩ := dw_gdS h
                refine dw_ald C0 Z dw_kc136 dw_lc136 g16 dX0_passHour_64 ?_
                refine lv_iload_n hx hb dX0_passHour_65 rfl (lv_at hl 3 rfl) ?_
                refine lv_icmp_ne (tgt := 77) hx hb dX0_passHour_66 (by decide) (fun c17 => ?_) (fun c17 => ?_)
                · have h := dw_ifF c17 h
                  obtain ⟨x18, ex18⟩ := dw_eg (x13 + (1 : Int32))
                  have h := dw_nmS ex18 h
                  refine lv_iinc (v := x18) (lv' := [(4, .int x18), (0, .ref (dw_ad Γ 135)), (1, .ref (dw_ad Γ 1)), (2, .ref (dw_ad Γ i)), (3, .int x10)]) hx hb dX0_passHour_77 hl (k := 4) rfl (by rw [ex18]; rfl) (by decide) rfl (fun ls hl => ?_)
                  refine lv_goto (tgt := 46) hx hb dX0_passHour_80 (by decide) ?_
                  obtain rfl := dw_s1 h
                  exact ih46 x18 μ14 H locs ls Z (lv_sub hl [1, 2, 3, 4, 0] rfl) hq46
                · have h := dw_ifT c17 h
                  refine lv_aload_n hx hb dX0_passHour_69 rfl (lv_at hl 0 rfl) ?_
                  refine lv_aload_n hx hb dX0_passHour_70 rfl (lv_at hl 1 rfl) ?_
                  refine lv_aload_n hx hb dX0_passHour_71 rfl (lv_at hl 2 rfl) ?_
                  refine lv_iload hx hb dX0_passHour_72 (lv_at hl 4 rfl) ?_
                  obtain ⟨μ20, hc19, h⟩ := dw_bdS h
                  refine dw_cVv C0 Z dw_hA (dw_lt dw_kc135 (by decide)) (dw_cz0 dw_kc135) rfl (As := [.ref (dw_ad Γ 1), .ref (dw_ad Γ i), .int x13]) (rest := []) (kX0_passOn l Γ hj μ14 i hk_i x13 hc19) (dw_gV tw_lX0_85 tw_vX0_passOn tw_eX0_passOn tw_iX0 tw_kX0_passOn) dw_hX0_passOn ⟨Nat.le_of_ble_eq_true rfl, Nat.le_of_ble_eq_true rfl⟩ ⟨Nat.zero_le _, Nat.zero_le _⟩ hl.1 (Nat.le_of_ble_eq_true rfl) rfl dX0_passHour_74 (fun H locs Z => ?_)
                  obtain ⟨x21, ex21⟩ := dw_eg (x13 + (1 : Int32))
                  have h := dw_nmS ex21 h
                  refine lv_iinc (v := x21) (lv' := [(4, .int x21), (0, .ref (dw_ad Γ 135)), (1, .ref (dw_ad Γ 1)), (2, .ref (dw_ad Γ i)), (3, .int x10)]) hx hb dX0_passHour_77 hl (k := 4) rfl (by rw [ex21]; rfl) (by decide) rfl (fun ls hl => ?_)
                  refine lv_goto (tgt := 46) hx hb dX0_passHour_80 (by decide) ?_
                  obtain rfl := dw_s1 h
                  exact ih46 x21 μ20 H locs ls Z (lv_sub hl [1, 2, 3, 4, 0] rfl) hq46
          exact L46 1000 (0 : Int32) μ11 H locs ls Z (lv_sub hl [1, 2, 3, 4, 0] rfl) h
    exact L35 1000 (0 : Int32) μ9 H locs ls Z (lv_sub hl [1, 2, 3, 0] rfl) h
  have L2 : ∀ (n2 : Nat) (x1 : Int32) (μ2 : dw_M) (H : Heap) (locs : List Loc) (ls : Array Slot), dw_Z Γ (dw_A Γ) s.heap μ2 H locs → lv_has ls 5 [(0, .ref (dw_ad Γ 135)), (1, .ref (dw_ad Γ 1)), (2, .ref (dw_ad Γ i)), (3, .int x1)] → dw_bd (dw_wh (fun v => sX0_passHour_2 i v.1 v.2) n2 (x1, μ2)) kc2 = some ν → W p l e (dw_rm 3 74) s m ([.ref (dw_ad Γ 135), .ref (dw_ad Γ 1), .ref (dw_ad Γ i)] : List Value).toArray below meth c H locs 0 0 (MQ below (dw_Qv Γ ν) ([.ref (dw_ad Γ 135), .ref (dw_ad Γ 1), .ref (dw_ad Γ i)] : List Value).toArray s 0 0 (dw_A Γ)) (F0 m 2 ls []) := by
    clear h
    intro n2
    induction n2 with
    | zero =>
      intro x1 μ2 H locs ls Z hl h
      exact (dw_wh0 h).elim
    | succ n2 ih2 =>
      intro x1 μ2 H locs ls Z hl h
      obtain ⟨q2, hs, hq2⟩ := dw_whB h
      have h : sX0_passHour_2 i x1 μ2 = some q2 := hs
      unfold sX0_passHour_2 at h
      refine lv_iload_n hx hb dX0_passHour_2 rfl (lv_at hl 3 rfl) ?_
      refine lv_aload_n hx hb dX0_passHour_3 rfl (lv_at hl 1 rfl) ?_
      refine dw_g6_0 (t := 2) C0 Z dw_kc1 tw_fX0_63 rfl dX0_passHour_4 ?_
      refine dw_g1_1 C0 Z dw_kc2 tw_fX0_69 dX0_passHour_7 ?_
      refine lv_icmp_ge (tgt := 33) hx hb dX0_passHour_10 (by decide) (fun c3 => ?_) (fun c3 => ?_)
      · have h := dw_ifT c3 h
        obtain rfl := dw_s1 h
        exact E2  μ2 H locs ls Z (lv_sub hl [0, 1, 2] rfl) hq2
      · have h := dw_ifF c3 h
        refine lv_aload_n hx hb dX0_passHour_13 rfl (lv_at hl 0 rfl) ?_
        refine lv_aload_n hx hb dX0_passHour_14 rfl (lv_at hl 1 rfl) ?_
        refine lv_aload_n hx hb dX0_passHour_15 rfl (lv_at hl 2 rfl) ?_
        refine lv_iload_n hx hb dX0_passHour_16 rfl (lv_at hl 3 rfl) ?_
        obtain ⟨μ5, hc4, h⟩ := dw_bdS h
        refine dw_cVv C0 Z dw_hA (dw_lt dw_kc135 (by decide)) (dw_cz0 dw_kc135) rfl (As := [.ref (dw_ad Γ 1), .ref (dw_ad Γ i), .int x1]) (rest := []) (kX0_wetPlace l Γ hj μ2 i hk_i x1 hc4) (dw_gV tw_lX0_74 tw_vX0_wetPlace tw_eX0_wetPlace tw_iX0 tw_kX0_wetPlace) dw_hX0_wetPlace ⟨Nat.le_of_ble_eq_true rfl, Nat.le_of_ble_eq_true rfl⟩ ⟨Nat.zero_le _, Nat.zero_le _⟩ hl.1 (Nat.le_of_ble_eq_true rfl) rfl dX0_passHour_17 (fun H locs Z => ?_)
        refine lv_aload_n hx hb dX0_passHour_20 rfl (lv_at hl 0 rfl) ?_
        refine lv_aload_n hx hb dX0_passHour_21 rfl (lv_at hl 1 rfl) ?_
        refine lv_aload_n hx hb dX0_passHour_22 rfl (lv_at hl 2 rfl) ?_
        refine lv_iload_n hx hb dX0_passHour_23 rfl (lv_at hl 3 rfl) ?_
        obtain ⟨μ7, hc6, h⟩ := dw_bdS h
        refine dw_cVv C0 Z dw_hA (dw_lt dw_kc135 (by decide)) (dw_cz0 dw_kc135) rfl (As := [.ref (dw_ad Γ 1), .ref (dw_ad Γ i), .int x1]) (rest := []) (kX0_drainPlace l Γ hj μ5 i hk_i x1 hc6) (dw_gV tw_lX0_78 tw_vX0_drainPlace tw_eX0_drainPlace tw_iX0 tw_kX0_drainPlace) dw_hX0_drainPlace ⟨Nat.le_of_ble_eq_true rfl, Nat.le_of_ble_eq_true rfl⟩ ⟨Nat.zero_le _, Nat.zero_le _⟩ hl.1 (Nat.le_of_ble_eq_true rfl) rfl dX0_passHour_24 (fun H locs Z => ?_)
        obtain ⟨x8, ex8⟩ := dw_eg (x1 + (1 : Int32))
        have h := dw_nmS ex8 h
        refine lv_iinc (v := x8) (lv' := [(3, .int x8), (0, .ref (dw_ad Γ 135)), (1, .ref (dw_ad Γ 1)), (2, .ref (dw_ad Γ i))]) hx hb dX0_passHour_27 hl (k := 3) rfl (by rw [ex8]; rfl) (by decide) rfl (fun ls hl => ?_)
        refine lv_goto (tgt := 2) hx hb dX0_passHour_30 (by decide) ?_
        obtain rfl := dw_s1 h
        exact ih2 x8 μ7 H locs ls Z (lv_sub hl [1, 2, 3, 0] rfl) hq2
  exact L2 1000 (0 : Int32) μ H locs ls Z (lv_sub hl [1, 2, 3, 0] rfl) h

def sX9_fill_2 (i : Nat) (a1 : Int32) (x1 : Int32) (μ2 : dw_M) : Option ((Int32 × dw_M) ⊕ ((dw_M))) :=
  if (nI (dw_ln i)) ≤ x1 then (
  some (.inr μ2))
  else (
  dw_gd (dw_ok x1 (dw_ln i)) (
  dw_nm (dw_st μ2 i x1.toNatClampNeg a1) (fun μ5 =>
  dw_nm (x1 + (1 : Int32)) (fun x6 =>
  some (.inl (x6, μ5))))))
def fX9_fill (μ : dw_M) (i : Nat) (a1 : Int32) : Option (dw_M) :=
  dw_bd (dw_wh (fun v => sX9_fill_2 i a1 v.1 v.2) 1000 ((0 : Int32), μ))
    (fun μ7 => some μ7)
set_option maxHeartbeats 4000000 in
set_option maxRecDepth 100000 in
theorem kX9_fill (l : Launch) (Γ : dw_G) (hj : dw_inj Γ) (μ : dw_M) (i : Nat) (hk_i : dw_kd i = 11) (a1 : Int32) {ν : dw_M} (h : fX9_fill μ i a1 = some ν) : Met l yX9_fill (dw_ws yX9_fill cX9_fill 3 none) (dw_rm 0 0) (dw_P Γ ([.ref (dw_ad Γ i), .int a1] : List Value) μ) (dw_Qv Γ ν) 0 0 (dw_A Γ) := by
  refine dw_met (own := RX9) rfl rfl (Nat.le_of_ble_eq_true rfl) hj ?_
  intro p e s m below meth c C0 hr hlk Z ls hl
  have hx := C0.1
  have hb := C0.2.1
  have hl : lv_has ls 3 [(0, .ref (dw_ad Γ i)), (1, .int a1)] := hl
  suffices key : ∀ (H : Heap) (locs : List Loc), dw_Z Γ (dw_A Γ) s.heap μ H locs → W p l e (dw_rm 0 0) s m ([.ref (dw_ad Γ i), .int a1] : List Value).toArray below meth c H locs 0 0 (MQ below (dw_Qv Γ ν) ([.ref (dw_ad Γ i), .int a1] : List Value).toArray s 0 0 (dw_A Γ)) (F0 m 0 ls []) from key _ _ Z
  clear Z
  intro H locs Z
  unfold fX9_fill at h
  refine lv_iconst (v := (0 : Int32)) hx hb dX9_fill_0 (by decide) ?_
  refine lv_istore_n (lv' := [(2, .int (0 : Int32)), (0, .ref (dw_ad Γ i)), (1, .int a1)]) hx hb dX9_fill_1 rfl hl (by decide) rfl (fun ls hl => ?_)
  obtain ⟨kc2, ekc2, h⟩ := dw_bdK h
  have E2 : ∀ (μ7 : dw_M) (H : Heap) (locs : List Loc) (ls : Array Slot), dw_Z Γ (dw_A Γ) s.heap μ7 H locs → lv_has ls 3 [] → kc2 μ7 = some ν → W p l e (dw_rm 0 0) s m ([.ref (dw_ad Γ i), .int a1] : List Value).toArray below meth c H locs 0 0 (MQ below (dw_Qv Γ ν) ([.ref (dw_ad Γ i), .int a1] : List Value).toArray s 0 0 (dw_A Γ)) (F0 m 18 ls []) := by
    intro μ7 H locs ls Z hl h
    rw [ekc2] at h
    dsimp only at h
    obtain rfl := dw_s1 h
    exact dw_vret C0 Z hr hlk dX9_fill_18
  have L2 : ∀ (n2 : Nat) (x1 : Int32) (μ2 : dw_M) (H : Heap) (locs : List Loc) (ls : Array Slot), dw_Z Γ (dw_A Γ) s.heap μ2 H locs → lv_has ls 3 [(0, .ref (dw_ad Γ i)), (1, .int a1), (2, .int x1)] → dw_bd (dw_wh (fun v => sX9_fill_2 i a1 v.1 v.2) n2 (x1, μ2)) kc2 = some ν → W p l e (dw_rm 0 0) s m ([.ref (dw_ad Γ i), .int a1] : List Value).toArray below meth c H locs 0 0 (MQ below (dw_Qv Γ ν) ([.ref (dw_ad Γ i), .int a1] : List Value).toArray s 0 0 (dw_A Γ)) (F0 m 2 ls []) := by
    clear h
    intro n2
    induction n2 with
    | zero =>
      intro x1 μ2 H locs ls Z hl h
      exact (dw_wh0 h).elim
    | succ n2 ih2 =>
      intro x1 μ2 H locs ls Z hl h
      obtain ⟨q2, hs, hq2⟩ := dw_whB h
      have h : sX9_fill_2 i a1 x1 μ2 = some q2 := hs
      unfold sX9_fill_2 at h
      refine lv_iload_n hx hb dX9_fill_2 rfl (lv_at hl 2 rfl) ?_
      refine lv_aload_n hx hb dX9_fill_3 rfl (lv_at hl 0 rfl) ?_
      refine dw_alen C0 Z hk_i dX9_fill_4 ?_
      refine lv_icmp_ge (tgt := 18) hx hb dX9_fill_5 (by decide) (fun c3 => ?_) (fun c3 => ?_)
      · have h := dw_ifT c3 h
        obtain rfl := dw_s1 h
        exact E2  μ2 H locs ls Z (lv_sub hl [] rfl) hq2
      · have h := dw_ifF c3 h
        refine lv_aload_n hx hb dX9_fill_8 rfl (lv_at hl 0 rfl) ?_
        refine lv_iload_n hx hb dX9_fill_9 rfl (lv_at hl 2 rfl) ?_
        refine lv_iload_n hx hb dX9_fill_10 rfl (lv_at hl 1 rfl) ?_
        obtain ⟨g4, h⟩ := dw_gdS h
        refine dw_ast C0 Z dw_hA hk_i rfl g4 dX9_fill_11 (fun μ5 eμ5 H locs Z => ?_)
        have h := dw_nmS eμ5 h
        obtain ⟨x6, ex6⟩ := dw_eg (x1 + (1 : Int32))
        have h := dw_nmS ex6 h
        refine lv_iinc (v := x6) (lv' := [(2, .int x6), (0, .ref (dw_ad Γ i)), (1, .int a1)]) hx hb dX9_fill_12 hl (k := 2) rfl (by rw [ex6]; rfl) (by decide) rfl (fun ls hl => ?_)
        refine lv_goto (tgt := 2) hx hb dX9_fill_15 (by decide) ?_
        obtain rfl := dw_s1 h
        exact ih2 x6 μ5 H locs ls Z (lv_sub hl [1, 2, 0] rfl) hq2
  exact L2 1000 (0 : Int32) μ H locs ls Z (lv_sub hl [1, 2, 0] rfl) h

def fX1_renew (μ : dw_M) (a1 : Int32) (a2 : Int32) : Option (dw_M) :=
  dw_nm (dw_st μ 2 0 a2) (fun μ1 =>
  dw_nm (dw_st μ1 2 1 (a1 * a2)) (fun μ2 =>
  dw_bd (fX9_fill μ2 3 (1000 : Int32)) (fun μ4 =>
  dw_bd (fX9_fill μ4 4 (0 : Int32)) (fun μ6 =>
  some μ6))))
set_option maxHeartbeats 4000000 in
set_option maxRecDepth 100000 in
theorem kX1_renew (l : Launch) (Γ : dw_G) (hj : dw_inj Γ) (μ : dw_M) (a1 : Int32) (a2 : Int32) {ν : dw_M} (h : fX1_renew μ a1 a2 = some ν) : Met l yX1_renew (dw_ws yX1_renew cX1_renew 3 none) (dw_rm 1 22) (dw_P Γ ([.ref (dw_ad Γ 2), .int a1, .int a2] : List Value) μ) (dw_Qv Γ ν) 0 0 (dw_A Γ) := by
  refine dw_met (own := RX1) rfl rfl (Nat.le_of_ble_eq_true rfl) hj ?_
  intro p e s m below meth c C0 hr hlk Z ls hl
  have hx := C0.1
  have hb := C0.2.1
  have hl : lv_has ls 3 [(0, .ref (dw_ad Γ 2)), (1, .int a1), (2, .int a2)] := hl
  suffices key : ∀ (H : Heap) (locs : List Loc), dw_Z Γ (dw_A Γ) s.heap μ H locs → W p l e (dw_rm 1 22) s m ([.ref (dw_ad Γ 2), .int a1, .int a2] : List Value).toArray below meth c H locs 0 0 (MQ below (dw_Qv Γ ν) ([.ref (dw_ad Γ 2), .int a1, .int a2] : List Value).toArray s 0 0 (dw_A Γ)) (F0 m 0 ls []) from key _ _ Z
  clear Z
  intro H locs Z
  unfold fX1_renew at h
  refine lv_aload_n hx hb dX1_renew_0 rfl (lv_at hl 0 rfl) ?_
  refine lv_iload_n hx hb dX1_renew_1 rfl (lv_at hl 2 rfl) ?_
  refine dw_p1_0 C0 Z dw_hA dw_kc2 tw_fX1_33 dX1_renew_2 (fun μ1 eμ1 H locs Z => ?_)
  have h := dw_nmS eμ1 h
  refine lv_aload_n hx hb dX1_renew_5 rfl (lv_at hl 0 rfl) ?_
  refine lv_iload_n hx hb dX1_renew_6 rfl (lv_at hl 1 rfl) ?_
  refine lv_iload_n hx hb dX1_renew_7 rfl (lv_at hl 2 rfl) ?_
  refine lv_imul hx hb dX1_renew_8 ?_
  refine dw_p1_1 C0 Z dw_hA dw_kc2 tw_fX1_37 dX1_renew_9 (fun μ2 eμ2 H locs Z => ?_)
  have h := dw_nmS eμ2 h
  refine lv_aload_n hx hb dX1_renew_12 rfl (lv_at hl 0 rfl) ?_
  refine dw_g1_2 (t := 3) C0 Z dw_kc2 tw_fX1_9 rfl dX1_renew_13 ?_
  refine lv_sipush (v := (1000 : Int32)) hx hb dX1_renew_16 (by decide) ?_
  obtain ⟨μ4, hc3, h⟩ := dw_bdS h
  refine dw_cNv (host := RX9) C0 Z dw_hA (As := [.ref (dw_ad Γ 3), .int (1000 : Int32)]) (rest := []) (kX9_fill l Γ hj μ2 3 dw_kc3 (1000 : Int32) hc3) (by decide +kernel) tw_kX9_fill tw_iX9 tw_sX9_fill dw_hX9_fill ⟨Nat.le_of_ble_eq_true rfl, Nat.le_of_ble_eq_true rfl⟩ ⟨Nat.zero_le _, Nat.zero_le _⟩ hl.1 (Nat.le_of_ble_eq_true rfl) rfl dX1_renew_19 (fun H locs Z => ?_)
  refine lv_aload_n hx hb dX1_renew_22 rfl (lv_at hl 0 rfl) ?_
  refine dw_g1_3 (t := 4) C0 Z dw_kc2 tw_fX1_15 rfl dX1_renew_23 ?_
  refine lv_iconst (v := (0 : Int32)) hx hb dX1_renew_26 (by decide) ?_
  obtain ⟨μ6, hc5, h⟩ := dw_bdS h
  refine dw_cNv (host := RX9) C0 Z dw_hA (As := [.ref (dw_ad Γ 4), .int (0 : Int32)]) (rest := []) (kX9_fill l Γ hj μ4 4 dw_kc4 (0 : Int32) hc5) (by decide +kernel) tw_kX9_fill tw_iX9 tw_sX9_fill dw_hX9_fill ⟨Nat.le_of_ble_eq_true rfl, Nat.le_of_ble_eq_true rfl⟩ ⟨Nat.zero_le _, Nat.zero_le _⟩ hl.1 (Nat.le_of_ble_eq_true rfl) rfl dX1_renew_27 (fun H locs Z => ?_)
  obtain rfl := dw_s1 h
  exact dw_vret C0 Z hr hlk dX1_renew_30

def sX9_copy_10 (i : Nat) (j : Nat) (x1 : Int32) (x2 : Int32) (μ3 : dw_M) : Option ((Int32 × dw_M) ⊕ ((dw_M))) :=
  if x1 ≤ x2 then (
  some (.inr μ3))
  else (
  dw_gd (dw_ok x2 (dw_ln i)) (
  dw_gd (dw_ok x2 (dw_ln j)) (
  dw_nm (dw_st μ3 j x2.toNatClampNeg (μ3.1 i x2.toNatClampNeg)) (fun μ7 =>
  dw_nm (x2 + (1 : Int32)) (fun x8 =>
  some (.inl (x8, μ7)))))))
def fX9_copy (μ : dw_M) (i : Nat) (j : Nat) : Option (dw_M) :=
  dw_nm (dw_mn (nI (dw_ln i)) (nI (dw_ln j))) (fun x1 =>
  dw_bd (dw_wh (fun v => sX9_copy_10 i j x1 v.1 v.2) 1000 ((0 : Int32), μ))
    (fun μ9 => some μ9))
set_option maxHeartbeats 4000000 in
set_option maxRecDepth 100000 in
theorem kX9_copy (l : Launch) (Γ : dw_G) (hj : dw_inj Γ) (μ : dw_M) (i : Nat) (hk_i : dw_kd i = 11) (j : Nat) (hk_j : dw_kd j = 11) {ν : dw_M} (h : fX9_copy μ i j = some ν) : Met l yX9_copy (dw_ws yX9_copy cX9_copy 4 none) (dw_rm 1 24) (dw_P Γ ([.ref (dw_ad Γ i), .ref (dw_ad Γ j)] : List Value) μ) (dw_Qv Γ ν) 0 0 (dw_A Γ) := by
  refine dw_met (own := RX9) rfl rfl (Nat.le_of_ble_eq_true rfl) hj ?_
  intro p e s m below meth c C0 hr hlk Z ls hl
  have hx := C0.1
  have hb := C0.2.1
  have hl : lv_has ls 4 [(0, .ref (dw_ad Γ i)), (1, .ref (dw_ad Γ j))] := hl
  suffices key : ∀ (H : Heap) (locs : List Loc), dw_Z Γ (dw_A Γ) s.heap μ H locs → W p l e (dw_rm 1 24) s m ([.ref (dw_ad Γ i), .ref (dw_ad Γ j)] : List Value).toArray below meth c H locs 0 0 (MQ below (dw_Qv Γ ν) ([.ref (dw_ad Γ i), .ref (dw_ad Γ j)] : List Value).toArray s 0 0 (dw_A Γ)) (F0 m 0 ls []) from key _ _ Z
  clear Z
  intro H locs Z
  unfold fX9_copy at h
  refine lv_aload_n hx hb dX9_copy_0 rfl (lv_at hl 0 rfl) ?_
  refine dw_alen C0 Z hk_i dX9_copy_1 ?_
  refine lv_aload_n hx hb dX9_copy_2 rfl (lv_at hl 1 rfl) ?_
  refine dw_alen C0 Z hk_j dX9_copy_3 ?_
  refine dw_mmin C0 hl.1 tw_lX9_307 (Nat.le_of_ble_eq_true rfl) (Nat.le_of_ble_eq_true rfl) ⟨Nat.zero_le _, Nat.zero_le _⟩ dX9_copy_4 ?_
  refine lv_topi (fun x1 ex1 => ?_)
  have h := dw_nmS ex1 h
  refine lv_istore_n (lv' := [(2, .int x1), (0, .ref (dw_ad Γ i)), (1, .ref (dw_ad Γ j))]) hx hb dX9_copy_7 rfl hl (by decide) rfl (fun ls hl => ?_)
  refine lv_iconst (v := (0 : Int32)) hx hb dX9_copy_8 (by decide) ?_
  refine lv_istore_n (lv' := [(3, .int (0 : Int32)), (2, .int x1), (0, .ref (dw_ad Γ i)), (1, .ref (dw_ad Γ j))]) hx hb dX9_copy_9 rfl hl (by decide) rfl (fun ls hl => ?_)
  obtain ⟨kc10, ekc10, h⟩ := dw_bdK h
  have E10 : ∀ (μ9 : dw_M) (H : Heap) (locs : List Loc) (ls : Array Slot), dw_Z Γ (dw_A Γ) s.heap μ9 H locs → lv_has ls 4 [] → kc10 μ9 = some ν → W p l e (dw_rm 1 24) s m ([.ref (dw_ad Γ i), .ref (dw_ad Γ j)] : List Value).toArray below meth c H locs 0 0 (MQ below (dw_Qv Γ ν) ([.ref (dw_ad Γ i), .ref (dw_ad Γ j)] : List Value).toArray s 0 0 (dw_A Γ)) (F0 m 27 ls []) := by
    intro μ9 H locs ls Z hl h
    rw [ekc10] at h
    dsimp only at h
    obtain rfl := dw_s1 h
    exact dw_vret C0 Z hr hlk dX9_copy_27
  have L10 : ∀ (n10 : Nat) (x2 : Int32) (μ3 : dw_M) (H : Heap) (locs : List Loc) (ls : Array Slot), dw_Z Γ (dw_A Γ) s.heap μ3 H locs → lv_has ls 4 [(0, .ref (dw_ad Γ i)), (1, .ref (dw_ad Γ j)), (2, .int x1), (3, .int x2)] → dw_bd (dw_wh (fun v => sX9_copy_10 i j x1 v.1 v.2) n10 (x2, μ3)) kc10 = some ν → W p l e (dw_rm 1 24) s m ([.ref (dw_ad Γ i), .ref (dw_ad Γ j)] : List Value).toArray below meth c H locs 0 0 (MQ below (dw_Qv Γ ν) ([.ref (dw_ad Γ i), .ref (dw_ad Γ j)] : List Value).toArray s 0 0 (dw_A Γ)) (F0 m 10 ls []) := by
    clear h
    intro n10
    induction n10 with
    | zero =>
      intro x2 μ3 H locs ls Z hl h
      exact (dw_wh0 h).elim
    | succ n10 ih10 =>
      intro x2 μ3 H locs ls Z hl h
      obtain ⟨q10, hs, hq10⟩ := dw_whB h
      have h : sX9_copy_10 i j x1 x2 μ3 = some q10 := hs
      unfold sX9_copy_10 at h
      refine lv_iload_n hx hb dX9_copy_10 rfl (lv_at hl 3 rfl) ?_
      refine lv_iload_n hx hb dX9_copy_11 rfl (lv_at hl 2 rfl) ?_
      refine lv_icmp_ge (tgt := 27) hx hb dX9_copy_12 (by decide) (fun c4 => ?_) (fun c4 => ?_)
      · have h := dw_ifT c4 h
        obtain rfl := dw_s1 h
        exact E10  μ3 H locs ls Z (lv_sub hl [] rfl) hq10
      · have h := dw_ifF c4 h
        refine lv_aload_n hx hb dX9_copy_15 rfl (lv_at hl 1 rfl) ?_
        refine lv_iload_n hx hb dX9_copy_16 rfl (lv_at hl 3 rfl) ?_
        refine lv_aload_n hx hb dX9_copy_17 rfl (lv_at hl 0 rfl) ?_
        refine lv_iload_n hx hb dX9_copy_18 rfl (lv_at hl 3 rfl) ?_
        obtain ⟨g5, h⟩ := dw_gdS h
        refine dw_ald C0 Z hk_i rfl g5 dX9_copy_19 ?_
        obtain ⟨g6, h⟩ := dw_gdS h
        refine dw_ast C0 Z dw_hA hk_j rfl g6 dX9_copy_20 (fun μ7 eμ7 H locs Z => ?_)
        have h := dw_nmS eμ7 h
        obtain ⟨x8, ex8⟩ := dw_eg (x2 + (1 : Int32))
        have h := dw_nmS ex8 h
        refine lv_iinc (v := x8) (lv' := [(3, .int x8), (0, .ref (dw_ad Γ i)), (1, .ref (dw_ad Γ j)), (2, .int x1)]) hx hb dX9_copy_21 hl (k := 3) rfl (by rw [ex8]; rfl) (by decide) rfl (fun ls hl => ?_)
        refine lv_goto (tgt := 10) hx hb dX9_copy_24 (by decide) ?_
        obtain rfl := dw_s1 h
        exact ih10 x8 μ7 H locs ls Z (lv_sub hl [1, 2, 3, 0] rfl) hq10
  exact L10 1000 (0 : Int32) μ H locs ls Z (lv_sub hl [2, 3, 1, 0] rfl) h

def fX1_copyFrom (μ : dw_M) (i : Nat) (j : Nat) : Option (dw_M) :=
  dw_nm (dw_st μ i 0 (μ.1 j 0)) (fun μ1 =>
  dw_nm (dw_st μ1 i 1 (μ1.1 j 1)) (fun μ2 =>
  dw_bd (fX9_copy μ2 (j + 1) (i + 1)) (fun μ4 =>
  dw_bd (fX9_copy μ4 (j + 2) (i + 2)) (fun μ6 =>
  dw_bd (fX9_copy μ6 (j + 3) (i + 3)) (fun μ8 =>
  dw_bd (fX9_copy μ8 (j + 4) (i + 4)) (fun μ10 =>
  dw_bd (fX9_copy μ10 (j + 5) (i + 5)) (fun μ12 =>
  dw_bd (fX9_copy μ12 (j + 6) (i + 6)) (fun μ14 =>
  dw_bd (fX9_copy μ14 (j + 7) (i + 7)) (fun μ16 =>
  some μ16)))))))))
set_option maxHeartbeats 4000000 in
set_option maxRecDepth 100000 in
theorem kX1_copyFrom (l : Launch) (Γ : dw_G) (hj : dw_inj Γ) (μ : dw_M) (i : Nat) (hk_i : dw_kd i = 1) (j : Nat) (hk_j : dw_kd j = 1) {ν : dw_M} (h : fX1_copyFrom μ i j = some ν) : Met l yX1_copyFrom (dw_ws yX1_copyFrom cX1_copyFrom 2 none) (dw_rm 2 47) (dw_P Γ ([.ref (dw_ad Γ i), .ref (dw_ad Γ j)] : List Value) μ) (dw_Qv Γ ν) 0 0 (dw_A Γ) := by
  refine dw_met (own := RX1) rfl rfl (Nat.le_of_ble_eq_true rfl) hj ?_
  intro p e s m below meth c C0 hr hlk Z ls hl
  have hx := C0.1
  have hb := C0.2.1
  have hl : lv_has ls 2 [(0, .ref (dw_ad Γ i)), (1, .ref (dw_ad Γ j))] := hl
  suffices key : ∀ (H : Heap) (locs : List Loc), dw_Z Γ (dw_A Γ) s.heap μ H locs → W p l e (dw_rm 2 47) s m ([.ref (dw_ad Γ i), .ref (dw_ad Γ j)] : List Value).toArray below meth c H locs 0 0 (MQ below (dw_Qv Γ ν) ([.ref (dw_ad Γ i), .ref (dw_ad Γ j)] : List Value).toArray s 0 0 (dw_A Γ)) (F0 m 0 ls []) from key _ _ Z
  clear Z
  intro H locs Z
  unfold fX1_copyFrom at h
  refine lv_aload_n hx hb dX1_copyFrom_0 rfl (lv_at hl 0 rfl) ?_
  refine lv_aload_n hx hb dX1_copyFrom_1 rfl (lv_at hl 1 rfl) ?_
  refine dw_g1_0 C0 Z hk_j tw_fX1_33 dX1_copyFrom_2 ?_
  refine dw_p1_0 C0 Z dw_hA hk_i tw_fX1_33 dX1_copyFrom_5 (fun μ1 eμ1 H locs Z => ?_)
  have h := dw_nmS eμ1 h
  refine lv_aload_n hx hb dX1_copyFrom_8 rfl (lv_at hl 0 rfl) ?_
  refine lv_aload_n hx hb dX1_copyFrom_9 rfl (lv_at hl 1 rfl) ?_
  refine dw_g1_1 C0 Z hk_j tw_fX1_37 dX1_copyFrom_10 ?_
  refine dw_p1_1 C0 Z dw_hA hk_i tw_fX1_37 dX1_copyFrom_13 (fun μ2 eμ2 H locs Z => ?_)
  have h := dw_nmS eμ2 h
  refine lv_aload_n hx hb dX1_copyFrom_16 rfl (lv_at hl 1 rfl) ?_
  refine dw_g1_2 (t := (j + 1)) C0 Z hk_j tw_fX1_9 rfl dX1_copyFrom_17 ?_
  refine lv_aload_n hx hb dX1_copyFrom_20 rfl (lv_at hl 0 rfl) ?_
  refine dw_g1_2 (t := (i + 1)) C0 Z hk_i tw_fX1_9 rfl dX1_copyFrom_21 ?_
  obtain ⟨μ4, hc3, h⟩ := dw_bdS h
  refine dw_cNv (host := RX9) C0 Z dw_hA (As := [.ref (dw_ad Γ (j + 1)), .ref (dw_ad Γ (i + 1))]) (rest := []) (kX9_copy l Γ hj μ2 (j + 1) (dw_r1_2 hk_j) (i + 1) (dw_r1_2 hk_i) hc3) (by decide +kernel) tw_kX9_copy tw_iX9 tw_sX9_copy dw_hX9_copy ⟨Nat.le_of_ble_eq_true rfl, Nat.le_of_ble_eq_true rfl⟩ ⟨Nat.zero_le _, Nat.zero_le _⟩ hl.1 (Nat.le_of_ble_eq_true rfl) rfl dX1_copyFrom_24 (fun H locs Z => ?_)
  refine lv_aload_n hx hb dX1_copyFrom_27 rfl (lv_at hl 1 rfl) ?_
  refine dw_g1_3 (t := (j + 2)) C0 Z hk_j tw_fX1_15 rfl dX1_copyFrom_28 ?_
  refine lv_aload_n hx hb dX1_copyFrom_31 rfl (lv_at hl 0 rfl) ?_
  refine dw_g1_3 (t := (i + 2)) C0 Z hk_i tw_fX1_15 rfl dX1_copyFrom_32 ?_
  obtain ⟨μ6, hc5, h⟩ := dw_bdS h
  refine dw_cNv (host := RX9) C0 Z dw_hA (As := [.ref (dw_ad Γ (j + 2)), .ref (dw_ad Γ (i + 2))]) (rest := []) (kX9_copy l Γ hj μ4 (j + 2) (dw_r1_3 hk_j) (i + 2) (dw_r1_3 hk_i) hc5) (by decide +kernel) tw_kX9_copy tw_iX9 tw_sX9_copy dw_hX9_copy ⟨Nat.le_of_ble_eq_true rfl, Nat.le_of_ble_eq_true rfl⟩ ⟨Nat.zero_le _, Nat.zero_le _⟩ hl.1 (Nat.le_of_ble_eq_true rfl) rfl dX1_copyFrom_35 (fun H locs Z => ?_)
  refine lv_aload_n hx hb dX1_copyFrom_38 rfl (lv_at hl 1 rfl) ?_
  refine dw_g1_4 (t := (j + 3)) C0 Z hk_j tw_fX1_18 rfl dX1_copyFrom_39 ?_
  refine lv_aload_n hx hb dX1_copyFrom_42 rfl (lv_at hl 0 rfl) ?_
  refine dw_g1_4 (t := (i + 3)) C0 Z hk_i tw_fX1_18 rfl dX1_copyFrom_43 ?_
  obtain ⟨μ8, hc7, h⟩ := dw_bdS h
  refine dw_cNv (host := RX9) C0 Z dw_hA (As := [.ref (dw_ad Γ (j + 3)), .ref (dw_ad Γ (i + 3))]) (rest := []) (kX9_copy l Γ hj μ6 (j + 3) (dw_r1_4 hk_j) (i + 3) (dw_r1_4 hk_i) hc7) (by decide +kernel) tw_kX9_copy tw_iX9 tw_sX9_copy dw_hX9_copy ⟨Nat.le_of_ble_eq_true rfl, Nat.le_of_ble_eq_true rfl⟩ ⟨Nat.zero_le _, Nat.zero_le _⟩ hl.1 (Nat.le_of_ble_eq_true rfl) rfl dX1_copyFrom_46 (fun H locs Z => ?_)
  refine lv_aload_n hx hb dX1_copyFrom_49 rfl (lv_at hl 1 rfl) ?_
  refine dw_g1_5 (t := (j + 4)) C0 Z hk_j tw_fX1_21 rfl dX1_copyFrom_50 ?_
  refine lv_aload_n hx hb dX1_copyFrom_53 rfl (lv_at hl 0 rfl) ?_
  refine dw_g1_5 (t := (i + 4)) C0 Z hk_i tw_fX1_21 rfl dX1_copyFrom_54 ?_
  obtain ⟨μ10, hc9, h⟩ := dw_bdS h
  refine dw_cNv (host := RX9) C0 Z dw_hA (As := [.ref (dw_ad Γ (j + 4)), .ref (dw_ad Γ (i + 4))]) (rest := []) (kX9_copy l Γ hj μ8 (j + 4) (dw_r1_5 hk_j) (i + 4) (dw_r1_5 hk_i) hc9) (by decide +kernel) tw_kX9_copy tw_iX9 tw_sX9_copy dw_hX9_copy ⟨Nat.le_of_ble_eq_true rfl, Nat.le_of_ble_eq_true rfl⟩ ⟨Nat.zero_le _, Nat.zero_le _⟩ hl.1 (Nat.le_of_ble_eq_true rfl) rfl dX1_copyFrom_57 (fun H locs Z => ?_)
  refine lv_aload_n hx hb dX1_copyFrom_60 rfl (lv_at hl 1 rfl) ?_
  refine dw_g1_6 (t := (j + 5)) C0 Z hk_j tw_fX1_24 rfl dX1_copyFrom_61 ?_
  refine lv_aload_n hx hb dX1_copyFrom_64 rfl (lv_at hl 0 rfl) ?_
  refine dw_g1_6 (t := (i + 5)) C0 Z hk_i tw_fX1_24 rfl dX1_copyFrom_65 ?_
  obtain ⟨μ12, hc11, h⟩ := dw_bdS h
  refine dw_cNv (host := RX9) C0 Z dw_hA (As := [.ref (dw_ad Γ (j + 5)), .ref (dw_ad Γ (i + 5))]) (rest := []) (kX9_copy l Γ hj μ10 (j + 5) (dw_r1_6 hk_j) (i + 5) (dw_r1_6 hk_i) hc11) (by decide +kernel) tw_kX9_copy tw_iX9 tw_sX9_copy dw_hX9_copy ⟨Nat.le_of_ble_eq_true rfl, Nat.le_of_ble_eq_true rfl⟩ ⟨Nat.zero_le _, Nat.zero_le _⟩ hl.1 (Nat.le_of_ble_eq_true rfl) rfl dX1_copyFrom_68 (fun H locs Z => ?_)
  refine lv_aload_n hx hb dX1_copyFrom_71 rfl (lv_at hl 1 rfl) ?_
  refine dw_g1_7 (t := (j + 6)) C0 Z hk_j tw_fX1_27 rfl dX1_copyFrom_72 ?_
  refine lv_aload_n hx hb dX1_copyFrom_75 rfl (lv_at hl 0 rfl) ?_
  refine dw_g1_7 (t := (i + 6)) C0 Z hk_i tw_fX1_27 rfl dX1_copyFrom_76 ?_
  obtain ⟨μ14, hc13, h⟩ := dw_bdS h
  refine dw_cNv (host := RX9) C0 Z dw_hA (As := [.ref (dw_ad Γ (j + 6)), .ref (dw_ad Γ (i + 6))]) (rest := []) (kX9_copy l Γ hj μ12 (j + 6) (dw_r1_7 hk_j) (i + 6) (dw_r1_7 hk_i) hc13) (by decide +kernel) tw_kX9_copy tw_iX9 tw_sX9_copy dw_hX9_copy ⟨Nat.le_of_ble_eq_true rfl, Nat.le_of_ble_eq_true rfl⟩ ⟨Nat.zero_le _, Nat.zero_le _⟩ hl.1 (Nat.le_of_ble_eq_true rfl) rfl dX1_copyFrom_79 (fun H locs Z => ?_)
  refine lv_aload_n hx hb dX1_copyFrom_82 rfl (lv_at hl 1 rfl) ?_
  refine dw_g1_8 (t := (j + 7)) C0 Z hk_j tw_fX1_30 rfl dX1_copyFrom_83 ?_
  refine lv_aload_n hx hb dX1_copyFrom_86 rfl (lv_at hl 0 rfl) ?_
  refine dw_g1_8 (t := (i + 7)) C0 Z hk_i tw_fX1_30 rfl dX1_copyFrom_87 ?_
  obtain ⟨μ16, hc15, h⟩ := dw_bdS h
  refine dw_cNv (host := RX9) C0 Z dw_hA (As := [.ref (dw_ad Γ (j + 7)), .ref (dw_ad Γ (i + 7))]) (rest := []) (kX9_copy l Γ hj μ14 (j + 7) (dw_r1_8 hk_j) (i + 7) (dw_r1_8 hk_i) hc15) (by decide +kernel) tw_kX9_copy tw_iX9 tw_sX9_copy dw_hX9_copy ⟨Nat.le_of_ble_eq_true rfl, Nat.le_of_ble_eq_true rfl⟩ ⟨Nat.zero_le _, Nat.zero_le _⟩ hl.1 (Nat.le_of_ble_eq_true rfl) rfl dX1_copyFrom_90 (fun H locs Z => ?_)
  obtain rfl := dw_s1 h
  exact dw_vret C0 Z hr hlk dX1_copyFrom_93

def fX1_hasPlace (μ : dw_M) (a1 : Int32) : Int32 :=
  if a1 < 0 then (
   (0 : Int32))
  else (
  if (μ.1 2 1) ≤ a1 then (
   (0 : Int32))
  else (
   (1 : Int32)))
set_option maxHeartbeats 4000000 in
set_option maxRecDepth 100000 in
theorem kX1_hasPlace (l : Launch) (Γ : dw_G) (hj : dw_inj Γ) (μ : dw_M) (a1 : Int32) {r : Int32} (h : fX1_hasPlace μ a1 = r) : Met l yX1_hasPlace (dw_ws yX1_hasPlace cX1_hasPlace 2 (some .boolean)) (dw_rm 0 0) (dw_P Γ ([.ref (dw_ad Γ 2), .int a1] : List Value) μ) (dw_Qi Γ r μ) 0 0 (dw_A Γ) := by
  refine dw_met (own := RX1) rfl rfl (Nat.le_of_ble_eq_true rfl) hj ?_
  intro p e s m below meth c C0 hr hlk Z ls hl
  have hx := C0.1
  have hb := C0.2.1
  have hl : lv_has ls 2 [(0, .ref (dw_ad Γ 2)), (1, .int a1)] := hl
  suffices key : ∀ (H : Heap) (locs : List Loc), dw_Z Γ (dw_A Γ) s.heap μ H locs → W p l e (dw_rm 0 0) s m ([.ref (dw_ad Γ 2), .int a1] : List Value).toArray below meth c H locs 0 0 (MQ below (dw_Qi Γ r μ) ([.ref (dw_ad Γ 2), .int a1] : List Value).toArray s 0 0 (dw_A Γ)) (F0 m 0 ls []) from key _ _ Z
  clear Z
  intro H locs Z
  unfold fX1_hasPlace at h
  refine lv_iload_n hx hb dX1_hasPlace_0 rfl (lv_at hl 1 rfl) ?_
  refine lv_if_lt (tgt := 16) hx hb dX1_hasPlace_1 (by decide) (fun c1 => ?_) (fun c1 => ?_)
  · have h := dw_ifT c1 h
    refine lv_iconst (v := (0 : Int32)) hx hb dX1_hasPlace_16 (by decide) ?_
    obtain rfl := dw_t1 h
    exact dw_zret C0 Z hr hlk rfl dX1_hasPlace_17
  · have h := dw_ifF c1 h
    refine lv_iload_n hx hb dX1_hasPlace_4 rfl (lv_at hl 1 rfl) ?_
    refine lv_aload_n hx hb dX1_hasPlace_5 rfl (lv_at hl 0 rfl) ?_
    refine dw_g1_1 C0 Z dw_kc2 tw_fX1_37 dX1_hasPlace_6 ?_
    refine lv_icmp_ge (tgt := 16) hx hb dX1_hasPlace_9 (by decide) (fun c2 => ?_) (fun c2 => ?_)
    · have h := dw_ifT c2 h
      refine lv_iconst (v := (0 : Int32)) hx hb dX1_hasPlace_16 (by decide) ?_
      obtain rfl := dw_t1 h
      exact dw_zret C0 Z hr hlk rfl dX1_hasPlace_17
    · have h := dw_ifF c2 h
      refine lv_iconst (v := (1 : Int32)) hx hb dX1_hasPlace_12 (by decide) ?_
      refine lv_goto (tgt := 17) hx hb dX1_hasPlace_13 (by decide) ?_
      obtain rfl := dw_t1 h
      exact dw_zret C0 Z hr hlk rfl dX1_hasPlace_17
theorem zX1_hasPlace (μ : dw_M) (a1 : Int32) : narrow .boolean (.int (fX1_hasPlace μ a1)) = .int (fX1_hasPlace μ a1) := by
  unfold fX1_hasPlace
  repeat' split
  all_goals first | rfl

def fX1_rowOf (μ : dw_M) (a1 : Int32) : Option (Int32) :=
  if (μ.1 2 0) ≤ 0 then (
  some (0 : Int32))
  else (
  dw_gd (dw_nz (μ.1 2 0)) (
  some (a1 / (μ.1 2 0))))
set_option maxHeartbeats 4000000 in
set_option maxRecDepth 100000 in
theorem kX1_rowOf (l : Launch) (Γ : dw_G) (hj : dw_inj Γ) (μ : dw_M) (a1 : Int32) {r : Int32} (h : fX1_rowOf μ a1 = some r) : Met l yX1_rowOf (dw_ws yX1_rowOf cX1_rowOf 2 (some .int)) (dw_rm 0 0) (dw_P Γ ([.ref (dw_ad Γ 2), .int a1] : List Value) μ) (dw_Qi Γ r μ) 0 0 (dw_A Γ) := by
  refine dw_met (own := RX1) rfl rfl (Nat.le_of_ble_eq_true rfl) hj ?_
  intro p e s m below meth c C0 hr hlk Z ls hl
  have hx := C0.1
  have hb := C0.2.1
  have hl : lv_has ls 2 [(0, .ref (dw_ad Γ 2)), (1, .int a1)] := hl
  suffices key : ∀ (H : Heap) (locs : List Loc), dw_Z Γ (dw_A Γ) s.heap μ H locs → W p l e (dw_rm 0 0) s m ([.ref (dw_ad Γ 2), .int a1] : List Value).toArray below meth c H locs 0 0 (MQ below (dw_Qi Γ r μ) ([.ref (dw_ad Γ 2), .int a1] : List Value).toArray s 0 0 (dw_A Γ)) (F0 m 0 ls []) from key _ _ Z
  clear Z
  intro H locs Z
  unfold fX1_rowOf at h
  refine lv_aload_n hx hb dX1_rowOf_0 rfl (lv_at hl 0 rfl) ?_
  refine dw_g1_0 C0 Z dw_kc2 tw_fX1_33 dX1_rowOf_1 ?_
  refine lv_if_le (tgt := 16) hx hb dX1_rowOf_4 (by decide) (fun c1 => ?_) (fun c1 => ?_)
  · have h := dw_ifT c1 h
    refine lv_iconst (v := (0 : Int32)) hx hb dX1_rowOf_16 (by decide) ?_
    obtain rfl := dw_s1 h
    exact dw_iret C0 Z hr hlk dX1_rowOf_17
  · have h := dw_ifF c1 h
    refine lv_iload_n hx hb dX1_rowOf_7 rfl (lv_at hl 1 rfl) ?_
    refine lv_aload_n hx hb dX1_rowOf_8 rfl (lv_at hl 0 rfl) ?_
    refine dw_g1_0 C0 Z dw_kc2 tw_fX1_33 dX1_rowOf_9 ?_
    obtain ⟨g2, h⟩ := dw_gdS h
    refine lv_idiv hx hb dX1_rowOf_12 (dw_nzS g2) ?_
    refine lv_goto (tgt := 17) hx hb dX1_rowOf_13 (by decide) ?_
    obtain rfl := dw_s1 h
    exact dw_iret C0 Z hr hlk dX1_rowOf_17

def fX1_rowsApart (μ : dw_M) (a1 : Int32) (a2 : Int32) : Option (Int32) :=
  dw_bd (fX1_rowOf μ a1) (fun r2 =>
  dw_bd (fX1_rowOf μ a2) (fun r4 =>
  some (dw_ab (r2 - r4))))
set_option maxHeartbeats 4000000 in
set_option maxRecDepth 100000 in
theorem kX1_rowsApart (l : Launch) (Γ : dw_G) (hj : dw_inj Γ) (μ : dw_M) (a1 : Int32) (a2 : Int32) {r : Int32} (h : fX1_rowsApart μ a1 a2 = some r) : Met l yX1_rowsApart (dw_ws yX1_rowsApart cX1_rowsApart 3 (some .int)) (dw_rm 1 24) (dw_P Γ ([.ref (dw_ad Γ 2), .int a1, .int a2] : List Value) μ) (dw_Qi Γ r μ) 0 0 (dw_A Γ) := by
  refine dw_met (own := RX1) rfl rfl (Nat.le_of_ble_eq_true rfl) hj ?_
  intro p e s m below meth c C0 hr hlk Z ls hl
  have hx := C0.1
  have hb := C0.2.1
  have hl : lv_has ls 3 [(0, .ref (dw_ad Γ 2)), (1, .int a1), (2, .int a2)] := hl
  suffices key : ∀ (H : Heap) (locs : List Loc), dw_Z Γ (dw_A Γ) s.heap μ H locs → W p l e (dw_rm 1 24) s m ([.ref (dw_ad Γ 2), .int a1, .int a2] : List Value).toArray below meth c H locs 0 0 (MQ below (dw_Qi Γ r μ) ([.ref (dw_ad Γ 2), .int a1, .int a2] : List Value).toArray s 0 0 (dw_A Γ)) (F0 m 0 ls []) from key _ _ Z
  clear Z
  intro H locs Z
  unfold fX1_rowsApart at h
  refine lv_aload_n hx hb dX1_rowsApart_0 rfl (lv_at hl 0 rfl) ?_
  refine lv_iload_n hx hb dX1_rowsApart_1 rfl (lv_at hl 1 rfl) ?_
  obtain ⟨r2, hc1, h⟩ := dw_bdS h
  refine dw_cVi C0 Z dw_hA (dw_lt dw_kc2 (by decide)) (dw_cz1 dw_kc2) rfl (As := [.int a1]) (rest := []) (kX1_rowOf l Γ hj μ a1 hc1) (dw_gV tw_lX1_48 tw_vX1_rowOf tw_eX1_rowOf tw_iX1 tw_kX1_rowOf) dw_hX1_rowOf ⟨Nat.le_of_ble_eq_true rfl, Nat.le_of_ble_eq_true rfl⟩ ⟨Nat.zero_le _, Nat.zero_le _⟩ hl.1 (Nat.le_of_ble_eq_true rfl) rfl dX1_rowsApart_2 (fun H locs Z => ?_)
  refine lv_aload_n hx hb dX1_rowsApart_5 rfl (lv_at hl 0 rfl) ?_
  refine lv_iload_n hx hb dX1_rowsApart_6 rfl (lv_at hl 2 rfl) ?_
  obtain ⟨r4, hc3, h⟩ := dw_bdS h
  refine dw_cVi C0 Z dw_hA (dw_lt dw_kc2 (by decide)) (dw_cz1 dw_kc2) rfl (As := [.int a2]) (rest := [.int r2]) (kX1_rowOf l Γ hj μ a2 hc3) (dw_gV tw_lX1_48 tw_vX1_rowOf tw_eX1_rowOf tw_iX1 tw_kX1_rowOf) dw_hX1_rowOf ⟨Nat.le_of_ble_eq_true rfl, Nat.le_of_ble_eq_true rfl⟩ ⟨Nat.zero_le _, Nat.zero_le _⟩ hl.1 (Nat.le_of_ble_eq_true rfl) rfl dX1_rowsApart_7 (fun H locs Z => ?_)
  refine lv_isub hx hb dX1_rowsApart_10 ?_
  refine dw_mabs C0 hl.1 tw_lX1_52 (Nat.le_of_ble_eq_true rfl) (Nat.le_of_ble_eq_true rfl) ⟨Nat.zero_le _, Nat.zero_le _⟩ dX1_rowsApart_11 ?_
  obtain rfl := dw_s1 h
  exact dw_iret C0 Z hr hlk dX1_rowsApart_14

def fX1_columnsApart (μ : dw_M) (a1 : Int32) (a2 : Int32) : Option (Int32) :=
  dw_bd (fX1_rowOf μ a1) (fun r2 =>
  dw_bd (fX1_rowOf μ a2) (fun r4 =>
  some (dw_ab ((a1 - (r2 * (μ.1 2 0))) - (a2 - (r4 * (μ.1 2 0)))))))
set_option maxHeartbeats 4000000 in
set_option maxRecDepth 100000 in
theorem kX1_columnsApart (l : Launch) (Γ : dw_G) (hj : dw_inj Γ) (μ : dw_M) (a1 : Int32) (a2 : Int32) {r : Int32} (h : fX1_columnsApart μ a1 a2 = some r) : Met l yX1_columnsApart (dw_ws yX1_columnsApart cX1_columnsApart 3 (some .int)) (dw_rm 1 24) (dw_P Γ ([.ref (dw_ad Γ 2), .int a1, .int a2] : List Value) μ) (dw_Qi Γ r μ) 0 0 (dw_A Γ) := by
  refine dw_met (own := RX1) rfl rfl (Nat.le_of_ble_eq_true rfl) hj ?_
  intro p e s m below meth c C0 hr hlk Z ls hl
  have hx := C0.1
  have hb := C0.2.1
  have hl : lv_has ls 3 [(0, .ref (dw_ad Γ 2)), (1, .int a1), (2, .int a2)] := hl
  suffices key : ∀ (H : Heap) (locs : List Loc), dw_Z Γ (dw_A Γ) s.heap μ H locs → W p l e (dw_rm 1 24) s m ([.ref (dw_ad Γ 2), .int a1, .int a2] : List Value).toArray below meth c H locs 0 0 (MQ below (dw_Qi Γ r μ) ([.ref (dw_ad Γ 2), .int a1, .int a2] : List Value).toArray s 0 0 (dw_A Γ)) (F0 m 0 ls []) from key _ _ Z
  clear Z
  intro H locs Z
  unfold fX1_columnsApart at h
  refine lv_iload_n hx hb dX1_columnsApart_0 rfl (lv_at hl 1 rfl) ?_
  refine lv_aload_n hx hb dX1_columnsApart_1 rfl (lv_at hl 0 rfl) ?_
  refine lv_iload_n hx hb dX1_columnsApart_2 rfl (lv_at hl 1 rfl) ?_
  obtain ⟨r2, hc1, h⟩ := dw_bdS h
  refine dw_cVi C0 Z dw_hA (dw_lt dw_kc2 (by decide)) (dw_cz1 dw_kc2) rfl (As := [.int a1]) (rest := [.int a1]) (kX1_rowOf l Γ hj μ a1 hc1) (dw_gV tw_lX1_48 tw_vX1_rowOf tw_eX1_rowOf tw_iX1 tw_kX1_rowOf) dw_hX1_rowOf ⟨Nat.le_of_ble_eq_true rfl, Nat.le_of_ble_eq_true rfl⟩ ⟨Nat.zero_le _, Nat.zero_le _⟩ hl.1 (Nat.le_of_ble_eq_true rfl) rfl dX1_columnsApart_3 (fun H locs Z => ?_)
  refine lv_aload_n hx hb dX1_columnsApart_6 rfl (lv_at hl 0 rfl) ?_
  refine dw_g1_0 C0 Z dw_kc2 tw_fX1_33 dX1_columnsApart_7 ?_
  refine lv_imul hx hb dX1_columnsApart_10 ?_
  refine lv_isub hx hb dX1_columnsApart_11 ?_
  refine lv_iload_n hx hb dX1_columnsApart_12 rfl (lv_at hl 2 rfl) ?_
  refine lv_aload_n hx hb dX1_columnsApart_13 rfl (lv_at hl 0 rfl) ?_
  refine lv_iload_n hx hb dX1_columnsApart_14 rfl (lv_at hl 2 rfl) ?_
  obtain ⟨r4, hc3, h⟩ := dw_bdS h
  refine dw_cVi C0 Z dw_hA (dw_lt dw_kc2 (by decide)) (dw_cz1 dw_kc2) rfl (As := [.int a2]) (rest := [.int a2, .int (a1 - (r2 * (μ.1 2 0)))]) (kX1_rowOf l Γ hj μ a2 hc3) (dw_gV tw_lX1_48 tw_vX1_rowOf tw_eX1_rowOf tw_iX1 tw_kX1_rowOf) dw_hX1_rowOf ⟨Nat.le_of_ble_eq_true rfl, Nat.le_of_ble_eq_true rfl⟩ ⟨Nat.zero_le _, Nat.zero_le _⟩ hl.1 (Nat.le_of_ble_eq_true rfl) rfl dX1_columnsApart_15 (fun H locs Z => ?_)
  refine lv_aload_n hx hb dX1_columnsApart_18 rfl (lv_at hl 0 rfl) ?_
  refine dw_g1_0 C0 Z dw_kc2 tw_fX1_33 dX1_columnsApart_19 ?_
  refine lv_imul hx hb dX1_columnsApart_22 ?_
  refine lv_isub hx hb dX1_columnsApart_23 ?_
  refine lv_isub hx hb dX1_columnsApart_24 ?_
  refine dw_mabs C0 hl.1 tw_lX1_52 (Nat.le_of_ble_eq_true rfl) (Nat.le_of_ble_eq_true rfl) ⟨Nat.zero_le _, Nat.zero_le _⟩ dX1_columnsApart_25 ?_
  obtain rfl := dw_s1 h
  exact dw_iret C0 Z hr hlk dX1_columnsApart_28

def fX1_areInLine (μ : dw_M) (a1 : Int32) (a2 : Int32) : Option (Int32) :=
  dw_bd (fX1_rowsApart μ a1 a2) (fun r2 =>
  if r2 = 0 then (
  some (1 : Int32))
  else (
  dw_bd (fX1_columnsApart μ a1 a2) (fun r5 =>
  if r5 = 0 then (
  some (1 : Int32))
  else (
  some (0 : Int32)))))
set_option maxHeartbeats 4000000 in
set_option maxRecDepth 100000 in
theorem kX1_areInLine (l : Launch) (Γ : dw_G) (hj : dw_inj Γ) (μ : dw_M) (a1 : Int32) (a2 : Int32) {r : Int32} (h : fX1_areInLine μ a1 a2 = some r) : Met l yX1_areInLine (dw_ws yX1_areInLine cX1_areInLine 3 (some .boolean)) (dw_rm 2 46) (dw_P Γ ([.ref (dw_ad Γ 2), .int a1, .int a2] : List Value) μ) (dw_Qi Γ r μ) 0 0 (dw_A Γ) := by
  refine dw_met (own := RX1) rfl rfl (Nat.le_of_ble_eq_true rfl) hj ?_
  intro p e s m below meth c C0 hr hlk Z ls hl
  have hx := C0.1
  have hb := C0.2.1
  have hl : lv_has ls 3 [(0, .ref (dw_ad Γ 2)), (1, .int a1), (2, .int a2)] := hl
  suffices key : ∀ (H : Heap) (locs : List Loc), dw_Z Γ (dw_A Γ) s.heap μ H locs → W p l e (dw_rm 2 46) s m ([.ref (dw_ad Γ 2), .int a1, .int a2] : List Value).toArray below meth c H locs 0 0 (MQ below (dw_Qi Γ r μ) ([.ref (dw_ad Γ 2), .int a1, .int a2] : List Value).toArray s 0 0 (dw_A Γ)) (F0 m 0 ls []) from key _ _ Z
  clear Z
  intro H locs Z
  unfold fX1_areInLine at h
  refine lv_aload_n hx hb dX1_areInLine_0 rfl (lv_at hl 0 rfl) ?_
  refine lv_iload_n hx hb dX1_areInLine_1 rfl (lv_at hl 1 rfl) ?_
  refine lv_iload_n hx hb dX1_areInLine_2 rfl (lv_at hl 2 rfl) ?_
  obtain ⟨r2, hc1, h⟩ := dw_bdS h
  refine dw_cVi C0 Z dw_hA (dw_lt dw_kc2 (by decide)) (dw_cz1 dw_kc2) rfl (As := [.int a1, .int a2]) (rest := []) (kX1_rowsApart l Γ hj μ a1 a2 hc1) (dw_gV tw_lX1_57 tw_vX1_rowsApart tw_eX1_rowsApart tw_iX1 tw_kX1_rowsApart) dw_hX1_rowsApart ⟨Nat.le_of_ble_eq_true rfl, Nat.le_of_ble_eq_true rfl⟩ ⟨Nat.zero_le _, Nat.zero_le _⟩ hl.1 (Nat.le_of_ble_eq_true rfl) rfl dX1_areInLine_3 (fun H locs Z => ?_)
  refine lv_if_eq (tgt := 18) hx hb dX1_areInLine_6 (by decide) (fun c3 => ?_) (fun c3 => ?_)
  · have h := dw_ifT c3 h
    refine lv_iconst (v := (1 : Int32)) hx hb dX1_areInLine_18 (by decide) ?_
    refine lv_goto (tgt := 23) hx hb dX1_areInLine_19 (by decide) ?_
    obtain rfl := dw_s1 h
    exact dw_zret C0 Z hr hlk rfl dX1_areInLine_23
  · have h := dw_ifF c3 h
    refine lv_aload_n hx hb dX1_areInLine_9 rfl (lv_at hl 0 rfl) ?_
    refine lv_iload_n hx hb dX1_areInLine_10 rfl (lv_at hl 1 rfl) ?_
    refine lv_iload_n hx hb dX1_areInLine_11 rfl (lv_at hl 2 rfl) ?_
    obtain ⟨r5, hc4, h⟩ := dw_bdS h
    refine dw_cVi C0 Z dw_hA (dw_lt dw_kc2 (by decide)) (dw_cz1 dw_kc2) rfl (As := [.int a1, .int a2]) (rest := []) (kX1_columnsApart l Γ hj μ a1 a2 hc4) (dw_gV tw_lX1_61 tw_vX1_columnsApart tw_eX1_columnsApart tw_iX1 tw_kX1_columnsApart) dw_hX1_columnsApart ⟨Nat.le_of_ble_eq_true rfl, Nat.le_of_ble_eq_true rfl⟩ ⟨Nat.zero_le _, Nat.zero_le _⟩ hl.1 (Nat.le_of_ble_eq_true rfl) rfl dX1_areInLine_12 (fun H locs Z => ?_)
    refine lv_if_ne (tgt := 22) hx hb dX1_areInLine_15 (by decide) (fun c6 => ?_) (fun c6 => ?_)
    · have h := dw_ifF c6 h
      refine lv_iconst (v := (0 : Int32)) hx hb dX1_areInLine_22 (by decide) ?_
      obtain rfl := dw_s1 h
      exact dw_zret C0 Z hr hlk rfl dX1_areInLine_23
    · have h := dw_ifT c6 h
      refine lv_iconst (v := (1 : Int32)) hx hb dX1_areInLine_18 (by decide) ?_
      refine lv_goto (tgt := 23) hx hb dX1_areInLine_19 (by decide) ?_
      obtain rfl := dw_s1 h
      exact dw_zret C0 Z hr hlk rfl dX1_areInLine_23

def fX1_coverAt (μ : dw_M) (i : Nat) (a1 : Int32) : Option (Int32) :=
  dw_bd (fX9_numberAt μ 3 (fX3_placeAt μ i a1)) (fun r2 =>
  some (r2 - (fX3_levelAt μ i a1)))
set_option maxHeartbeats 4000000 in
set_option maxRecDepth 100000 in
theorem kX1_coverAt (l : Launch) (Γ : dw_G) (hj : dw_inj Γ) (μ : dw_M) (i : Nat) (hk_i : dw_kd i = 3) (a1 : Int32) {r : Int32} (h : fX1_coverAt μ i a1 = some r) : Met l yX1_coverAt (dw_ws yX1_coverAt cX1_coverAt 3 (some .int)) (dw_rm 1 21) (dw_P Γ ([.ref (dw_ad Γ 2), .ref (dw_ad Γ i), .int a1] : List Value) μ) (dw_Qi Γ r μ) 0 0 (dw_A Γ) := by
  refine dw_met (own := RX1) rfl rfl (Nat.le_of_ble_eq_true rfl) hj ?_
  intro p e s m below meth c C0 hr hlk Z ls hl
  have hx := C0.1
  have hb := C0.2.1
  have hl : lv_has ls 3 [(0, .ref (dw_ad Γ 2)), (1, .ref (dw_ad Γ i)), (2, .int a1)] := hl
  suffices key : ∀ (H : Heap) (locs : List Loc), dw_Z Γ (dw_A Γ) s.heap μ H locs → W p l e (dw_rm 1 21) s m ([.ref (dw_ad Γ 2), .ref (dw_ad Γ i), .int a1] : List Value).toArray below meth c H locs 0 0 (MQ below (dw_Qi Γ r μ) ([.ref (dw_ad Γ 2), .ref (dw_ad Γ i), .int a1] : List Value).toArray s 0 0 (dw_A Γ)) (F0 m 0 ls []) from key _ _ Z
  clear Z
  intro H locs Z
  unfold fX1_coverAt at h
  refine lv_aload_n hx hb dX1_coverAt_0 rfl (lv_at hl 0 rfl) ?_
  refine dw_g1_2 (t := 3) C0 Z dw_kc2 tw_fX1_9 rfl dX1_coverAt_1 ?_
  refine lv_aload_n hx hb dX1_coverAt_4 rfl (lv_at hl 1 rfl) ?_
  refine lv_iload_n hx hb dX1_coverAt_5 rfl (lv_at hl 2 rfl) ?_
  refine dw_cVi C0 Z dw_hA (dw_lt hk_i (by decide)) (dw_cz3 hk_i) rfl (As := [.int a1]) (rest := [.ref (dw_ad Γ 3)]) (kX3_placeAt l Γ hj μ i hk_i a1 rfl) (dw_gV tw_lX1_64 tw_vX3_placeAt tw_eX3_placeAt tw_iX3 tw_kX3_placeAt) dw_hX3_placeAt ⟨Nat.le_of_ble_eq_true rfl, Nat.le_of_ble_eq_true rfl⟩ ⟨Nat.zero_le _, Nat.zero_le _⟩ hl.1 (Nat.le_of_ble_eq_true rfl) rfl dX1_coverAt_6 (fun H locs Z => ?_)
  obtain ⟨r2, hc1, h⟩ := dw_bdS h
  refine dw_cNi (host := RX9) C0 Z dw_hA (As := [.ref (dw_ad Γ 3), .int (fX3_placeAt μ i a1)]) (rest := []) (kX9_numberAt l Γ hj μ 3 dw_kc3 (fX3_placeAt μ i a1) hc1) (by decide +kernel) tw_kX9_numberAt tw_iX9 tw_sX9_numberAt dw_hX9_numberAt ⟨Nat.le_of_ble_eq_true rfl, Nat.le_of_ble_eq_true rfl⟩ ⟨Nat.zero_le _, Nat.zero_le _⟩ hl.1 (Nat.le_of_ble_eq_true rfl) rfl dX1_coverAt_9 (fun H locs Z => ?_)
  refine lv_aload_n hx hb dX1_coverAt_12 rfl (lv_at hl 1 rfl) ?_
  refine lv_iload_n hx hb dX1_coverAt_13 rfl (lv_at hl 2 rfl) ?_
  refine dw_cVi C0 Z dw_hA (dw_lt hk_i (by decide)) (dw_cz3 hk_i) rfl (As := [.int a1]) (rest := [.int r2]) (kX3_levelAt l Γ hj μ i hk_i a1 rfl) (dw_gV tw_lX1_73 tw_vX3_levelAt tw_eX3_levelAt tw_iX3 tw_kX3_levelAt) dw_hX3_levelAt ⟨Nat.le_of_ble_eq_true rfl, Nat.le_of_ble_eq_true rfl⟩ ⟨Nat.zero_le _, Nat.zero_le _⟩ hl.1 (Nat.le_of_ble_eq_true rfl) rfl dX1_coverAt_14 (fun H locs Z => ?_)
  refine lv_isub hx hb dX1_coverAt_17 ?_
  obtain rfl := dw_s1 h
  exact dw_iret C0 Z hr hlk dX1_coverAt_18

def sX1_firstBareStep_2 (μ : dw_M) (i : Nat) (x1 : Int32) : Option ((Int32) ⊕ ((Unit) ⊕ (Int32))) :=
  if (μ.1 i 2) ≤ x1 then (
  some (.inr (.inl ())))
  else (
  dw_bd (fX1_coverAt μ i x1) (fun r4 =>
  if r4 < (60 : Int32) then (
  some (.inr (.inr x1)))
  else (
  if 0 ≤ (fX3_levelAt μ i x1) then (
  dw_nm (x1 + (1 : Int32)) (fun x7 =>
  some (.inl x7)))
  else (
  some (.inr (.inr x1))))))
def fX1_firstBareStep (μ : dw_M) (i : Nat) : Option (Int32) :=
  dw_bd (dw_wh (fun v => sX1_firstBareStep_2 μ i v) 1000 (0 : Int32))
    (Sum.elim (fun _ => some (-1 : Int32)) (fun r => some r))
set_option maxHeartbeats 4000000 in
set_option maxRecDepth 100000 in
theorem kX1_firstBareStep (l : Launch) (Γ : dw_G) (hj : dw_inj Γ) (μ : dw_M) (i : Nat) (hk_i : dw_kd i = 3) {r : Int32} (h : fX1_firstBareStep μ i = some r) : Met l yX1_firstBareStep (dw_ws yX1_firstBareStep cX1_firstBareStep 3 (some .int)) (dw_rm 2 43) (dw_P Γ ([.ref (dw_ad Γ 2), .ref (dw_ad Γ i)] : List Value) μ) (dw_Qi Γ r μ) 0 0 (dw_A Γ) := by
  refine dw_met (own := RX1) rfl rfl (Nat.le_of_ble_eq_true rfl) hj ?_
  intro p e s m below meth c C0 hr hlk Z ls hl
  have hx := C0.1
  have hb := C0.2.1
  have hl : lv_has ls 3 [(0, .ref (dw_ad Γ 2)), (1, .ref (dw_ad Γ i))] := hl
  suffices key : ∀ (H : Heap) (locs : List Loc), dw_Z Γ (dw_A Γ) s.heap μ H locs → W p l e (dw_rm 2 43) s m ([.ref (dw_ad Γ 2), .ref (dw_ad Γ i)] : List Value).toArray below meth c H locs 0 0 (MQ below (dw_Qi Γ r μ) ([.ref (dw_ad Γ 2), .ref (dw_ad Γ i)] : List Value).toArray s 0 0 (dw_A Γ)) (F0 m 0 ls []) from key _ _ Z
  clear Z
  intro H locs Z
  unfold fX1_firstBareStep at h
  refine lv_iconst (v := (0 : Int32)) hx hb dX1_firstBareStep_0 (by decide) ?_
  refine lv_istore_n (lv' := [(2, .int (0 : Int32)), (0, .ref (dw_ad Γ 2)), (1, .ref (dw_ad Γ i))]) hx hb dX1_firstBareStep_1 rfl hl (by decide) rfl (fun ls hl => ?_)
  obtain ⟨kc2, ekc2, h⟩ := dw_bdK h
  have E2 : ∀ (H : Heap) (locs : List Loc) (ls : Array Slot), dw_Z Γ (dw_A Γ) s.heap μ H locs → lv_has ls 3 [] → kc2 (.inl ()) = some r → W p l e (dw_rm 2 43) s m ([.ref (dw_ad Γ 2), .ref (dw_ad Γ i)] : List Value).toArray below meth c H locs 0 0 (MQ below (dw_Qi Γ r μ) ([.ref (dw_ad Γ 2), .ref (dw_ad Γ i)] : List Value).toArray s 0 0 (dw_A Γ)) (F0 m 37 ls []) := by
    intro  H locs ls Z hl h
    rw [ekc2] at h
    dsimp only [Sum.elim] at h
    refine lv_iconst (v := (-1 : Int32)) hx hb dX1_firstBareStep_37 (by decide) ?_
    obtain rfl := dw_s1 h
    exact dw_iret C0 Z hr hlk dX1_firstBareStep_38
  have L2 : ∀ (n2 : Nat) (x1 : Int32) (H : Heap) (locs : List Loc) (ls : Array Slot), dw_Z Γ (dw_A Γ) s.heap μ H locs → lv_has ls 3 [(0, .ref (dw_ad Γ 2)), (1, .ref (dw_ad Γ i)), (2, .int x1)] → dw_bd (dw_wh (fun v => sX1_firstBareStep_2 μ i v) n2 x1) kc2 = some r → W p l e (dw_rm 2 43) s m ([.ref (dw_ad Γ 2), .ref (dw_ad Γ i)] : List Value).toArray below meth c H locs 0 0 (MQ below (dw_Qi Γ r μ) ([.ref (dw_ad Γ 2), .ref (dw_ad Γ i)] : List Value).toArray s 0 0 (dw_A Γ)) (F0 m 2 ls []) := by
    clear h
    intro n2
    induction n2 with
    | zero =>
      intro x1 H locs ls Z hl h
      exact (dw_wh0 h).elim
    | succ n2 ih2 =>
      intro x1 H locs ls Z hl h
      obtain ⟨q2, hs, hq2⟩ := dw_whB h
      have h : sX1_firstBareStep_2 μ i x1 = some q2 := hs
      unfold sX1_firstBareStep_2 at h
      refine lv_iload_n hx hb dX1_firstBareStep_2 rfl (lv_at hl 2 rfl) ?_
      refine lv_aload_n hx hb dX1_firstBareStep_3 rfl (lv_at hl 1 rfl) ?_
      refine dw_g3_2 C0 Z hk_i tw_fX1_76 dX1_firstBareStep_4 ?_
      refine lv_icmp_ge (tgt := 37) hx hb dX1_firstBareStep_7 (by decide) (fun c2 => ?_) (fun c2 => ?_)
      · have h := dw_ifT c2 h
        obtain rfl := dw_s1 h
        exact E2  H locs ls Z (lv_sub hl [] rfl) hq2
      · have h := dw_ifF c2 h
        refine lv_aload_n hx hb dX1_firstBareStep_10 rfl (lv_at hl 0 rfl) ?_
        refine lv_aload_n hx hb dX1_firstBareStep_11 rfl (lv_at hl 1 rfl) ?_
        refine lv_iload_n hx hb dX1_firstBareStep_12 rfl (lv_at hl 2 rfl) ?_
        obtain ⟨r4, hc3, h⟩ := dw_bdS h
        refine dw_cVi C0 Z dw_hA (dw_lt dw_kc2 (by decide)) (dw_cz1 dw_kc2) rfl (As := [.ref (dw_ad Γ i), .int x1]) (rest := []) (kX1_coverAt l Γ hj μ i hk_i x1 hc3) (dw_gV tw_lX1_79 tw_vX1_coverAt tw_eX1_coverAt tw_iX1 tw_kX1_coverAt) dw_hX1_coverAt ⟨Nat.le_of_ble_eq_true rfl, Nat.le_of_ble_eq_true rfl⟩ ⟨Nat.zero_le _, Nat.zero_le _⟩ hl.1 (Nat.le_of_ble_eq_true rfl) rfl dX1_firstBareStep_13 (fun H locs Z => ?_)
        refine lv_bipush (v := (60 : Int32)) hx hb dX1_firstBareStep_16 (by decide) ?_
        refine lv_icmp_lt (tgt := 29) hx hb dX1_firstBareStep_18 (by decide) (fun c5 => ?_) (fun c5 => ?_)
        · have h := dw_ifT c5 h
          refine lv_iload_n hx hb dX1_firstBareStep_29 rfl (lv_at hl 2 rfl) ?_
          obtain rfl := dw_s1 h
          have h := hq2
          dsimp only at h
          rw [ekc2] at h
          dsimp only [Sum.elim] at h
          obtain rfl := dw_s1 h
          exact dw_iret C0 Z hr hlk dX1_firstBareStep_30
        · have h := dw_ifF c5 h
          refine lv_aload_n hx hb dX1_firstBareStep_21 rfl (lv_at hl 1 rfl) ?_
          refine lv_iload_n hx hb dX1_firstBareStep_22 rfl (lv_at hl 2 rfl) ?_
          refine dw_cVi C0 Z dw_hA (dw_lt hk_i (by decide)) (dw_cz3 hk_i) rfl (As := [.int x1]) (rest := []) (kX3_levelAt l Γ hj μ i hk_i x1 rfl) (dw_gV tw_lX1_73 tw_vX3_levelAt tw_eX3_levelAt tw_iX3 tw_kX3_levelAt) dw_hX3_levelAt ⟨Nat.le_of_ble_eq_true rfl, Nat.le_of_ble_eq_true rfl⟩ ⟨Nat.zero_le _, Nat.zero_le _⟩ hl.1 (Nat.le_of_ble_eq_true rfl) rfl dX1_firstBareStep_23 (fun H locs Z => ?_)
          refine lv_if_ge (tgt := 31) hx hb dX1_firstBareStep_26 (by decide) (fun c6 => ?_) (fun c6 => ?_)
          · have h := dw_ifT c6 h
            obtain ⟨x7, ex7⟩ := dw_eg (x1 + (1 : Int32))
            have h := dw_nmS ex7 h
            refine lv_iinc (v := x7) (lv' := [(2, .int x7), (0, .ref (dw_ad Γ 2)), (1, .ref (dw_ad Γ i))]) hx hb dX1_firstBareStep_31 hl (k := 2) rfl (by rw [ex7]; rfl) (by decide) rfl (fun ls hl => ?_)
            refine lv_goto (tgt := 2) hx hb dX1_firstBareStep_34 (by decide) ?_
            obtain rfl := dw_s1 h
            exact ih2 x7 H locs ls Z (lv_sub hl [1, 2, 0] rfl) hq2
          · have h := dw_ifF c6 h
            refine lv_iload_n hx hb dX1_firstBareStep_29 rfl (lv_at hl 2 rfl) ?_
            obtain rfl := dw_s1 h
            have h := hq2
            dsimp only at h
            rw [ekc2] at h
            dsimp only [Sum.elim] at h
            obtain rfl := dw_s1 h
            exact dw_iret C0 Z hr hlk dX1_firstBareStep_30
  exact L2 1000 (0 : Int32) H locs ls Z (lv_sub hl [1, 2, 0] rfl) h

def sX1_isReachedBy_17 (μ : dw_M) (a1 : Int32) (i : Nat) (r3 : Int32) (x4 : Int32) : Option ((Int32) ⊕ ((Unit) ⊕ (Int32))) :=
  if (μ.1 i 2) ≤ x4 then (
  some (.inr (.inl ())))
  else (
  dw_bd (fX1_rowsApart μ a1 (fX3_placeAt μ i x4)) (fun r7 =>
  dw_bd (fX1_columnsApart μ a1 (fX3_placeAt μ i x4)) (fun r9 =>
  if r3 < ((r7 * r7) + (r9 * r9)) then (
  dw_nm (x4 + (1 : Int32)) (fun x11 =>
  some (.inl x11)))
  else (
  some (.inr (.inr (1 : Int32)))))))
def fX1_isReachedBy (μ : dw_M) (a1 : Int32) (i : Nat) : Option (Int32) :=
  dw_gd (dw_ok a1 36) (
  dw_bd (fX9_numberAt μ 8 (μ.1 4 a1.toNatClampNeg)) (fun r3 =>
  dw_bd (dw_wh (fun v => sX1_isReachedBy_17 μ a1 i r3 v) 1000 (0 : Int32))
    (Sum.elim (fun _ => some (0 : Int32)) (fun r => some r))))
set_option maxHeartbeats 4000000 in
set_option maxRecDepth 100000 in
theorem kX1_isReachedBy (l : Launch) (Γ : dw_G) (hj : dw_inj Γ) (μ : dw_M) (a1 : Int32) (i : Nat) (hk_i : dw_kd i = 3) {r : Int32} (h : fX1_isReachedBy μ a1 i = some r) : Met l yX1_isReachedBy (dw_ws yX1_isReachedBy cX1_isReachedBy 7 (some .boolean)) (dw_rm 2 46) (dw_P Γ ([.ref (dw_ad Γ 2), .int a1, .ref (dw_ad Γ i)] : List Value) μ) (dw_Qi Γ r μ) 0 0 (dw_A Γ) := by
  refine dw_met (own := RX1) rfl rfl (Nat.le_of_ble_eq_true rfl) hj ?_
  intro p e s m below meth c C0 hr hlk Z ls hl
  have hx := C0.1
  have hb := C0.2.1
  have hl : lv_has ls 7 [(0, .ref (dw_ad Γ 2)), (1, .int a1), (2, .ref (dw_ad Γ i))] := hl
  suffices key : ∀ (H : Heap) (locs : List Loc), dw_Z Γ (dw_A Γ) s.heap μ H locs → W p l e (dw_rm 2 46) s m ([.ref (dw_ad Γ 2), .int a1, .ref (dw_ad Γ i)] : List Value).toArray below meth c H locs 0 0 (MQ below (dw_Qi Γ r μ) ([.ref (dw_ad Γ 2), .int a1, .ref (dw_ad Γ i)] : List Value).toArray s 0 0 (dw_A Γ)) (F0 m 0 ls []) from key _ _ Z
  clear Z
  intro H locs Z
  unfold fX1_isReachedBy at h
  refine lv_aload_n hx hb dX1_isReachedBy_0 rfl (lv_at hl 0 rfl) ?_
  refine dw_g1_7 (t := 8) C0 Z dw_kc2 tw_fX1_27 rfl dX1_isReachedBy_1 ?_
  refine lv_aload_n hx hb dX1_isReachedBy_4 rfl (lv_at hl 0 rfl) ?_
  refine dw_g1_3 (t := 4) C0 Z dw_kc2 tw_fX1_15 rfl dX1_isReachedBy_5 ?_
  refine lv_iload_n hx hb dX1_isReachedBy_8 rfl (lv_at hl 1 rfl) ?_
  obtain ⟨g1, h⟩ := dw_gdS h
  refine dw_ald C0 Z dw_kc4 dw_lc4 g1 dX1_isReachedBy_9 ?_
  obtain ⟨r3, hc2, h⟩ := dw_bdS h
  refine dw_cNi (host := RX9) C0 Z dw_hA (As := [.ref (dw_ad Γ 8), .int (μ.1 4 a1.toNatClampNeg)]) (rest := []) (kX9_numberAt l Γ hj μ 8 dw_kc8 (μ.1 4 a1.toNatClampNeg) hc2) (by decide +kernel) tw_kX9_numberAt tw_iX9 tw_sX9_numberAt dw_hX9_numberAt ⟨Nat.le_of_ble_eq_true rfl, Nat.le_of_ble_eq_true rfl⟩ ⟨Nat.zero_le _, Nat.zero_le _⟩ hl.1 (Nat.le_of_ble_eq_true rfl) rfl dX1_isReachedBy_10 (fun H locs Z => ?_)
  refine lv_istore_n (lv' := [(3, .int r3), (0, .ref (dw_ad Γ 2)), (1, .int a1), (2, .ref (dw_ad Γ i))]) hx hb dX1_isReachedBy_13 rfl hl (by decide) rfl (fun ls hl => ?_)
  refine lv_iconst (v := (0 : Int32)) hx hb dX1_isReachedBy_14 (by decide) ?_
  refine lv_istore (lv' := [(4, .int (0 : Int32)), (3, .int r3), (0, .ref (dw_ad Γ 2)), (1, .int a1), (2, .ref (dw_ad Γ i))]) hx hb dX1_isReachedBy_15 hl (by decide) rfl (fun ls hl => ?_)
  obtain ⟨kc17, ekc17, h⟩ := dw_bdK h
  have E17 : ∀ (H : Heap) (locs : List Loc) (ls : Array Slot), dw_Z Γ (dw_A Γ) s.heap μ H locs → lv_has ls 7 [] → kc17 (.inl ()) = some r → W p l e (dw_rm 2 46) s m ([.ref (dw_ad Γ 2), .int a1, .ref (dw_ad Γ i)] : List Value).toArray below meth c H locs 0 0 (MQ below (dw_Qi Γ r μ) ([.ref (dw_ad Γ 2), .int a1, .ref (dw_ad Γ i)] : List Value).toArray s 0 0 (dw_A Γ)) (F0 m 75 ls []) := by
    intro  H locs ls Z hl h
    rw [ekc17] at h
    dsimp only [Sum.elim] at h
    refine lv_iconst (v := (0 : Int32)) hx hb dX1_isReachedBy_75 (by decide) ?_
    obtain rfl := dw_s1 h
    exact dw_zret C0 Z hr hlk rfl dX1_isReachedBy_76
  have L17 : ∀ (n17 : Nat) (x4 : Int32) (H : Heap) (locs : List Loc) (ls : Array Slot), dw_Z Γ (dw_A Γ) s.heap μ H locs → lv_has ls 7 [(0, .ref (dw_ad Γ 2)), (1, .int a1), (2, .ref (dw_ad Γ i)), (3, .int r3), (4, .int x4)] → dw_bd (dw_wh (fun v => sX1_isReachedBy_17 μ a1 i r3 v) n17 x4) kc17 = some r → W p l e (dw_rm 2 46) s m ([.ref (dw_ad Γ 2), .int a1, .ref (dw_ad Γ i)] : List Value).toArray below meth c H locs 0 0 (MQ below (dw_Qi Γ r μ) ([.ref (dw_ad Γ 2), .int a1, .ref (dw_ad Γ i)] : List Value).toArray s 0 0 (dw_A Γ)) (F0 m 17 ls []) := by
    clear h
    intro n17
    induction n17 with
    | zero =>
      intro x4 H locs ls Z hl h
      exact (dw_wh0 h).elim
    | succ n17 ih17 =>
      intro x4 H locs ls Z hl h
      obtain ⟨q17, hs, hq17⟩ := dw_whB h
      have h : sX1_isReachedBy_17 μ a1 i r3 x4 = some q17 := hs
      unfold sX1_isReachedBy_17 at h
      refine lv_iload hx hb dX1_isReachedBy_17 (lv_at hl 4 rfl) ?_
      refine lv_aload_n hx hb dX1_isReachedBy_19 rfl (lv_at hl 2 rfl) ?_
      refine dw_g3_2 C0 Z hk_i tw_fX1_76 dX1_isReachedBy_20 ?_
      refine lv_icmp_ge (tgt := 75) hx hb dX1_isReachedBy_23 (by decide) (fun c5 => ?_) (fun c5 => ?_)
      · have h := dw_ifT c5 h
        obtain rfl := dw_s1 h
        exact E17  H locs ls Z (lv_sub hl [] rfl) hq17
      · have h := dw_ifF c5 h
        refine lv_aload_n hx hb dX1_isReachedBy_26 rfl (lv_at hl 0 rfl) ?_
        refine lv_iload_n hx hb dX1_isReachedBy_27 rfl (lv_at hl 1 rfl) ?_
        refine lv_aload_n hx hb dX1_isReachedBy_28 rfl (lv_at hl 2 rfl) ?_
        refine lv_iload hx hb dX1_isReachedBy_29 (lv_at hl 4 rfl) ?_
        refine dw_cVi C0 Z dw_hA (dw_lt hk_i (by decide)) (dw_cz3 hk_i) rfl (As := [.int x4]) (rest := [.int a1, .ref (dw_ad Γ 2)]) (kX3_placeAt l Γ hj μ i hk_i x4 rfl) (dw_gV tw_lX1_64 tw_vX3_placeAt tw_eX3_placeAt tw_iX3 tw_kX3_placeAt) dw_hX3_placeAt ⟨Nat.le_of_ble_eq_true rfl, Nat.le_of_ble_eq_true rfl⟩ ⟨Nat.zero_le _, Nat.zero_le _⟩ hl.1 (Nat.le_of_ble_eq_true rfl) rfl dX1_isReachedBy_31 (fun H locs Z => ?_)
        obtain ⟨r7, hc6, h⟩ := dw_bdS h
        refine dw_cVi C0 Z dw_hA (dw_lt dw_kc2 (by decide)) (dw_cz1 dw_kc2) rfl (As := [.int a1, .int (fX3_placeAt μ i x4)]) (rest := []) (kX1_rowsApart l Γ hj μ a1 (fX3_placeAt μ i x4) hc6) (dw_gV tw_lX1_57 tw_vX1_rowsApart tw_eX1_rowsApart tw_iX1 tw_kX1_rowsApart) dw_hX1_rowsApart ⟨Nat.le_of_ble_eq_true rfl, Nat.le_of_ble_eq_true rfl⟩ ⟨Nat.zero_le _, Nat.zero_le _⟩ hl.1 (Nat.le_of_ble_eq_true rfl) rfl dX1_isReachedBy_34 (fun H locs Z => ?_)
        refine lv_istore (lv' := [(5, .int r7), (0, .ref (dw_ad Γ 2)), (1, .int a1), (2, .ref (dw_ad Γ i)), (3, .int r3), (4, .int x4)]) hx hb dX1_isReachedBy_37 hl (by decide) rfl (fun ls hl => ?_)
        refine lv_aload_n hx hb dX1_isReachedBy_39 rfl (lv_at hl 1 rfl) ?_
        refine lv_iload_n hx hb dX1_isReachedBy_40 rfl (lv_at hl 2 rfl) ?_
        refine lv_aload_n hx hb dX1_isReachedBy_41 rfl (lv_at hl 3 rfl) ?_
        refine lv_iload hx hb dX1_isReachedBy_42 (lv_at hl 5 rfl) ?_
        refine dw_cVi C0 Z dw_hA (dw_lt hk_i (by decide)) (dw_cz3 hk_i) rfl (As := [.int x4]) (rest := [.int a1, .ref (dw_ad Γ 2)]) (kX3_placeAt l Γ hj μ i hk_i x4 rfl) (dw_gV tw_lX1_64 tw_vX3_placeAt tw_eX3_placeAt tw_iX3 tw_kX3_placeAt) dw_hX3_placeAt ⟨Nat.le_of_ble_eq_true rfl, Nat.le_of_ble_eq_true rfl⟩ ⟨Nat.zero_le _, Nat.zero_le _⟩ hl.1 (Nat.le_of_ble_eq_true rfl) rfl dX1_isReachedBy_44 (fun H locs Z => ?_)
        obtain ⟨r9, hc8, h⟩ := dw_bdS h
        refine dw_cVi C0 Z dw_hA (dw_lt dw_kc2 (by decide)) (dw_cz1 dw_kc2) rfl (As := [.int a1, .int (fX3_placeAt μ i x4)]) (rest := []) (kX1_columnsApart l Γ hj μ a1 (fX3_placeAt μ i x4) hc8) (dw_gV tw_lX1_61 tw_vX1_columnsApart tw_eX1_columnsApart tw_iX1 tw_kX1_columnsApart) dw_hX1_columnsApart ⟨Nat.le_of_ble_eq_true rfl, Nat.le_of_ble_eq_true rfl⟩ ⟨Nat.zero_le _, Nat.zero_le _⟩ hl.1 (Nat.le_of_ble_eq_true rfl) rfl dX1_isReachedBy_47 (fun H locs Z => ?_)
        refine lv_istore (lv' := [(6, .int r9), (5, .int r7), (0, .ref (dw_ad Γ 2)), (1, .int a1), (2, .ref (dw_ad Γ i)), (3, .int r3), (4, .int x4)]) hx hb dX1_isReachedBy_50 hl (by decide) rfl (fun ls hl => ?_)
        refine lv_iload hx hb dX1_isReachedBy_52 (lv_at hl 1 rfl) ?_
        refine lv_iload hx hb dX1_isReachedBy_54 (lv_at hl 1 rfl) ?_
        refine lv_imul hx hb dX1_isReachedBy_56 ?_
        refine lv_iload hx hb dX1_isReachedBy_57 (lv_at hl 0 rfl) ?_
        refine lv_iload hx hb dX1_isReachedBy_59 (lv_at hl 0 rfl) ?_
        refine lv_imul hx hb dX1_isReachedBy_61 ?_
        refine lv_iadd hx hb dX1_isReachedBy_62 ?_
        refine lv_iload_n hx hb dX1_isReachedBy_63 rfl (lv_at hl 5 rfl) ?_
        refine lv_icmp_gt (tgt := 69) hx hb dX1_isReachedBy_64 (by decide) (fun c10 => ?_) (fun c10 => ?_)
        · have h := dw_ifT c10 h
          obtain ⟨x11, ex11⟩ := dw_eg (x4 + (1 : Int32))
          have h := dw_nmS ex11 h
          refine lv_iinc (v := x11) (lv' := [(4, .int x11), (6, .int r9), (5, .int r7), (0, .ref (dw_ad Γ 2)), (1, .int a1), (2, .ref (dw_ad Γ i)), (3, .int r3)]) hx hb dX1_isReachedBy_69 hl (k := 6) rfl (by rw [ex11]; rfl) (by decide) rfl (fun ls hl => ?_)
          refine lv_goto (tgt := 17) hx hb dX1_isReachedBy_72 (by decide) ?_
          obtain rfl := dw_s1 h
          exact ih17 x11 H locs ls Z (lv_sub hl [3, 4, 5, 6, 0] rfl) hq17
        · have h := dw_ifF c10 h
          refine lv_iconst (v := (1 : Int32)) hx hb dX1_isReachedBy_67 (by decide) ?_
          obtain rfl := dw_s1 h
          have h := hq17
          dsimp only at h
          rw [ekc17] at h
          dsimp only [Sum.elim] at h
          obtain rfl := dw_s1 h
          exact dw_zret C0 Z hr hlk rfl dX1_isReachedBy_68
  exact L17 1000 (0 : Int32) H locs ls Z (lv_sub hl [2, 3, 4, 1, 0] rfl) h

def fX1_costBetween (μ : dw_M) (a1 : Int32) (a2 : Int32) : Option (Int32) :=
  dw_bd (fX1_rowsApart μ a1 a2) (fun r2 =>
  dw_bd (fX1_columnsApart μ a1 a2) (fun r4 =>
  dw_gd (dw_ok a1 36) (
  dw_gd (dw_ok a2 36) (
  some (((10 : Int32) * (r2 + r4)) + (dw_ab ((μ.1 3 a1.toNatClampNeg) - (μ.1 3 a2.toNatClampNeg))))))))
set_option maxHeartbeats 4000000 in
set_option maxRecDepth 100000 in
theorem kX1_costBetween (l : Launch) (Γ : dw_G) (hj : dw_inj Γ) (μ : dw_M) (a1 : Int32) (a2 : Int32) {r : Int32} (h : fX1_costBetween μ a1 a2 = some r) : Met l yX1_costBetween (dw_ws yX1_costBetween cX1_costBetween 3 (some .int)) (dw_rm 2 46) (dw_P Γ ([.ref (dw_ad Γ 2), .int a1, .int a2] : List Value) μ) (dw_Qi Γ r μ) 0 0 (dw_A Γ) := by
  refine dw_met (own := RX1) rfl rfl (Nat.le_of_ble_eq_true rfl) hj ?_
  intro p e s m below meth c C0 hr hlk Z ls hl
  have hx := C0.1
  have hb := C0.2.1
  have hl : lv_has ls 3 [(0, .ref (dw_ad Γ 2)), (1, .int a1), (2, .int a2)] := hl
  suffices key : ∀ (H : Heap) (locs : List Loc), dw_Z Γ (dw_A Γ) s.heap μ H locs → W p l e (dw_rm 2 46) s m ([.ref (dw_ad Γ 2), .int a1, .int a2] : List Value).toArray below meth c H locs 0 0 (MQ below (dw_Qi Γ r μ) ([.ref (dw_ad Γ 2), .int a1, .int a2] : List Value).toArray s 0 0 (dw_A Γ)) (F0 m 0 ls []) from key _ _ Z
  clear Z
  intro H locs Z
  unfold fX1_costBetween at h
  refine lv_bipush (v := (10 : Int32)) hx hb dX1_costBetween_0 (by decide) ?_
  refine lv_aload_n hx hb dX1_costBetween_2 rfl (lv_at hl 0 rfl) ?_
  refine lv_iload_n hx hb dX1_costBetween_3 rfl (lv_at hl 1 rfl) ?_
  refine lv_iload_n hx hb dX1_costBetween_4 rfl (lv_at hl 2 rfl) ?_
  obtain ⟨r2, hc1, h⟩ := dw_bdS h
  refine dw_cVi C0 Z dw_hA (dw_lt dw_kc2 (by decide)) (dw_cz1 dw_kc2) rfl (As := [.int a1, .int a2]) (rest := [.int (10 : Int32)]) (kX1_rowsApart l Γ hj μ a1 a2 hc1) (dw_gV tw_lX1_57 tw_vX1_rowsApart tw_eX1_rowsApart tw_iX1 tw_kX1_rowsApart) dw_hX1_rowsApart ⟨Nat.le_of_ble_eq_true rfl, Nat.le_of_ble_eq_true rfl⟩ ⟨Nat.zero_le _, Nat.zero_le _⟩ hl.1 (Nat.le_of_ble_eq_true rfl) rfl dX1_costBetween_5 (fun H locs Z => ?_)
  refine lv_aload_n hx hb dX1_costBetween_8 rfl (lv_at hl 0 rfl) ?_
  refine lv_iload_n hx hb dX1_costBetween_9 rfl (lv_at hl 1 rfl) ?_
  refine lv_iload_n hx hb dX1_costBetween_10 rfl (lv_at hl 2 rfl) ?_
  obtain ⟨r4, hc3, h⟩ := dw_bdS h
  refine dw_cVi C0 Z dw_hA (dw_lt dw_kc2 (by decide)) (dw_cz1 dw_kc2) rfl (As := [.int a1, .int a2]) (rest := [.int r2, .int (10 : Int32)]) (kX1_columnsApart l Γ hj μ a1 a2 hc3) (dw_gV tw_lX1_61 tw_vX1_columnsApart tw_eX1_columnsApart tw_iX1 tw_kX1_columnsApart) dw_hX1_columnsApart ⟨Nat.le_of_ble_eq_true rfl, Nat.le_of_ble_eq_true rfl⟩ ⟨Nat.zero_le _, Nat.zero_le _⟩ hl.1 (Nat.le_of_ble_eq_true rfl) rfl dX1_costBetween_11 (fun H locs Z => ?_)
  refine lv_iadd hx hb dX1_costBetween_14 ?_
  refine lv_imul hx hb dX1_costBetween_15 ?_
  refine lv_aload_n hx hb dX1_costBetween_16 rfl (lv_at hl 0 rfl) ?_
  refine dw_g1_2 (t := 3) C0 Z dw_kc2 tw_fX1_9 rfl dX1_costBetween_17 ?_
  refine lv_iload_n hx hb dX1_costBetween_20 rfl (lv_at hl 1 rfl) ?_
  obtain ⟨g5, h⟩ := dw_gdS h
  refine dw_ald C0 Z dw_kc3 dw_lc3 g5 dX1_costBetween_21 ?_
  refine lv_aload_n hx hb dX1_costBetween_22 rfl (lv_at hl 0 rfl) ?_
  refine dw_g1_2 (t := 3) C0 Z dw_kc2 tw_fX1_9 rfl dX1_costBetween_23 ?_
  refine lv_iload_n hx hb dX1_costBetween_26 rfl (lv_at hl 2 rfl) ?_
  obtain ⟨g6, h⟩ := dw_gdS h
  refine dw_ald C0 Z dw_kc3 dw_lc3 g6 dX1_costBetween_27 ?_
  refine lv_isub hx hb dX1_costBetween_28 ?_
  refine dw_mabs C0 hl.1 tw_lX1_52 (Nat.le_of_ble_eq_true rfl) (Nat.le_of_ble_eq_true rfl) ⟨Nat.zero_le _, Nat.zero_le _⟩ dX1_costBetween_29 ?_
  refine lv_iadd hx hb dX1_costBetween_32 ?_
  obtain rfl := dw_s1 h
  exact dw_iret C0 Z hr hlk dX1_costBetween_33

def fX2_put (μ : dw_M) (i : Nat) (a1 : Int32) (a2 : Int32) : Int32 × dw_M :=
  if (fX2_has μ i a1) = a2 then (
   ((0 : Int32), μ))
  else (
  dw_nm (dw_sl μ i ((μ.2 i) ^^^ (dw_sh (1 : Int64) a1))) (fun μ2 =>
   ((1 : Int32), μ2)))
set_option maxHeartbeats 4000000 in
set_option maxRecDepth 100000 in
theorem kX2_put (l : Launch) (Γ : dw_G) (hj : dw_inj Γ) (μ : dw_M) (i : Nat) (hk_i : dw_kd i = 2) (a1 : Int32) (a2 : Int32) {r : Int32} {ν : dw_M} (h : fX2_put μ i a1 a2 = (r, ν)) : Met l yX2_put (dw_ws yX2_put cX2_put 3 (some .int)) (dw_rm 1 21) (dw_P Γ ([.ref (dw_ad Γ i), .int a1, .int a2] : List Value) μ) (dw_Qi Γ r ν) 0 0 (dw_A Γ) := by
  refine dw_met (own := RX2) rfl rfl (Nat.le_of_ble_eq_true rfl) hj ?_
  intro p e s m below meth c C0 hr hlk Z ls hl
  have hx := C0.1
  have hb := C0.2.1
  have hl : lv_has ls 3 [(0, .ref (dw_ad Γ i)), (1, .int a1), (2, .int a2)] := hl
  suffices key : ∀ (H : Heap) (locs : List Loc), dw_Z Γ (dw_A Γ) s.heap μ H locs → W p l e (dw_rm 1 21) s m ([.ref (dw_ad Γ i), .int a1, .int a2] : List Value).toArray below meth c H locs 0 0 (MQ below (dw_Qi Γ r ν) ([.ref (dw_ad Γ i), .int a1, .int a2] : List Value).toArray s 0 0 (dw_A Γ)) (F0 m 0 ls []) from key _ _ Z
  clear Z
  intro H locs Z
  unfold fX2_put at h
  refine lv_aload_n hx hb dX2_put_0 rfl (lv_at hl 0 rfl) ?_
  refine lv_iload_n hx hb dX2_put_1 rfl (lv_at hl 1 rfl) ?_
  refine dw_cVi C0 Z dw_hA (dw_lt hk_i (by decide)) (dw_cz2 hk_i) rfl (As := [.int a1]) (rest := []) (kX2_has l Γ hj μ i hk_i a1 rfl) (dw_gV tw_lX2_13 tw_vX2_has tw_eX2_has tw_iX2 tw_kX2_has) dw_hX2_has ⟨Nat.le_of_ble_eq_true rfl, Nat.le_of_ble_eq_true rfl⟩ ⟨Nat.zero_le _, Nat.zero_le _⟩ hl.1 (Nat.le_of_ble_eq_true rfl) rfl dX2_put_2 (fun H locs Z => ?_)
  refine lv_iload_n hx hb dX2_put_5 rfl (lv_at hl 2 rfl) ?_
  refine lv_icmp_ne (tgt := 11) hx hb dX2_put_6 (by decide) (fun c1 => ?_) (fun c1 => ?_)
  · have h := dw_ifF c1 h
    refine lv_aload_n hx hb dX2_put_11 rfl (lv_at hl 0 rfl) ?_
    refine lv_aload_n hx hb dX2_put_12 rfl (lv_at hl 0 rfl) ?_
    refine dw_g2_0 C0 Z hk_i tw_fX2_7 dX2_put_13 ?_
    refine lv_lconst (v := (1 : Int64)) hx hb dX2_put_16 (by decide) ?_
    refine lv_iload_n hx hb dX2_put_17 rfl (lv_at hl 1 rfl) ?_
    refine lv_lshl (v := (dw_sh (1 : Int64) a1)) hx hb dX2_put_18 rfl ?_
    refine lv_lxor hx hb dX2_put_19 ?_
    refine dw_p2_0 C0 Z dw_hA hk_i tw_fX2_7 dX2_put_20 (fun μ2 eμ2 H locs Z => ?_)
    have h := dw_nmS eμ2 h
    refine lv_iconst (v := (1 : Int32)) hx hb dX2_put_23 (by decide) ?_
    obtain ⟨rfl, rfl⟩ := dw_t2 h
    exact dw_iret C0 Z hr hlk dX2_put_24
  · have h := dw_ifT c1 h
    refine lv_iconst (v := (0 : Int32)) hx hb dX2_put_9 (by decide) ?_
    obtain ⟨rfl, rfl⟩ := dw_t2 h
    exact dw_iret C0 Z hr hlk dX2_put_10

def fJ13_bitCount_95d88 (a1 : Int64) : Int32 :=
  dw_nm (a1 - ((dw_us a1 (1 : Int32)) &&& (6148914691236517205 : Int64))) (fun y1 =>
  dw_nm ((y1 &&& (3689348814741910323 : Int64)) + ((dw_us y1 (2 : Int32)) &&& (3689348814741910323 : Int64))) (fun y2 =>
  dw_nm ((y2 + (dw_us y2 (4 : Int32))) &&& (1085102592571150095 : Int64)) (fun y3 =>
  dw_nm (y3 + (dw_us y3 (8 : Int32))) (fun y4 =>
  dw_nm (y4 + (dw_us y4 (16 : Int32))) (fun y5 =>
  dw_nm (y5 + (dw_us y5 (32 : Int32))) (fun y6 =>
   (y6.toInt32 &&& (127 : Int32))))))))
set_option maxHeartbeats 4000000 in
set_option maxRecDepth 100000 in
theorem kJ13_bitCount_95d88 (l : Launch) (Γ : dw_G) (hj : dw_inj Γ) (μ : dw_M) (a1 : Int64) {r : Int32} (h : fJ13_bitCount_95d88 a1 = r) : Met l yJ13_bitCount_95d88 (dw_ws yJ13_bitCount_95d88 cJ13_bitCount_95d88 2 (some .int)) (dw_rm 0 0) (dw_P Γ ([.long a1] : List Value) μ) (dw_Qi Γ r μ) 0 0 (dw_A Γ) := by
  refine dw_met (own := RJ13) rfl rfl (Nat.le_of_ble_eq_true rfl) hj ?_
  intro p e s m below meth c C0 hr hlk Z ls hl
  have hx := C0.1
  have hb := C0.2.1
  have hl : lv_has ls 2 [(0, .long a1)] := hl
  suffices key : ∀ (H : Heap) (locs : List Loc), dw_Z Γ (dw_A Γ) s.heap μ H locs → W p l e (dw_rm 0 0) s m ([.long a1] : List Value).toArray below meth c H locs 0 0 (MQ below (dw_Qi Γ r μ) ([.long a1] : List Value).toArray s 0 0 (dw_A Γ)) (F0 m 0 ls []) from key _ _ Z
  clear Z
  intro H locs Z
  unfold fJ13_bitCount_95d88 at h
  refine lv_lload_n hx hb dJ13_bitCount_95d88_0 rfl (lv_at hl 0 rfl) ?_
  refine lv_lload_n hx hb dJ13_bitCount_95d88_1 rfl (lv_at hl 0 rfl) ?_
  refine lv_iconst (v := (1 : Int32)) hx hb dJ13_bitCount_95d88_2 (by decide) ?_
  refine lv_lushr (v := (dw_us a1 (1 : Int32))) hx hb dJ13_bitCount_95d88_3 rfl ?_
  refine lv_ldc2 hx hb C0.2.2.2.1 (C0.2.2.2.2.1 _ tw_dJ13_314) dJ13_bitCount_95d88_4 ?_
  refine lv_land hx hb dJ13_bitCount_95d88_7 ?_
  refine lv_lsub hx hb dJ13_bitCount_95d88_8 ?_
  refine lv_topl (fun y1 ey1 => ?_)
  have h := dw_nmS ey1 h
  refine lv_lstore_n (lv' := [(0, .long y1)]) hx hb dJ13_bitCount_95d88_9 rfl hl (by decide) rfl (fun ls hl => ?_)
  refine lv_lload_n hx hb dJ13_bitCount_95d88_10 rfl (lv_at hl 0 rfl) ?_
  refine lv_ldc2 hx hb C0.2.2.2.1 (C0.2.2.2.2.1 _ tw_dJ13_316) dJ13_bitCount_95d88_11 ?_
  refine lv_land hx hb dJ13_bitCount_95d88_14 ?_
  refine lv_lload_n hx hb dJ13_bitCount_95d88_15 rfl (lv_at hl 0 rfl) ?_
  refine lv_iconst (v := (2 : Int32)) hx hb dJ13_bitCount_95d88_16 (by decide) ?_
  refine lv_lushr (v := (dw_us y1 (2 : Int32))) hx hb dJ13_bitCount_95d88_17 rfl ?_
  refine lv_ldc2 hx hb C0.2.2.2.1 (C0.2.2.2.2.1 _ tw_dJ13_316) dJ13_bitCount_95d88_18 ?_
  refine lv_land hx hb dJ13_bitCount_95d88_21 ?_
  refine lv_ladd hx hb dJ13_bitCount_95d88_22 ?_
  refine lv_topl (fun y2 ey2 => ?_)
  have h := dw_nmS ey2 h
  refine lv_lstore_n (lv' := [(0, .long y2)]) hx hb dJ13_bitCount_95d88_23 rfl hl (by decide) rfl (fun ls hl => ?_)
  refine lv_lload_n hx hb dJ13_bitCount_95d88_24 rfl (lv_at hl 0 rfl) ?_
  refine lv_lload_n hx hb dJ13_bitCount_95d88_25 rfl (lv_at hl 0 rfl) ?_
  refine lv_iconst (v := (4 : Int32)) hx hb dJ13_bitCount_95d88_26 (by decide) ?_
  refine lv_lushr (v := (dw_us y2 (4 : Int32))) hx hb dJ13_bitCount_95d88_27 rfl ?_
  refine lv_ladd hx hb dJ13_bitCount_95d88_28 ?_
  refine lv_ldc2 hx hb C0.2.2.2.1 (C0.2.2.2.2.1 _ tw_dJ13_318) dJ13_bitCount_95d88_29 ?_
  refine lv_land hx hb dJ13_bitCount_95d88_32 ?_
  refine lv_topl (fun y3 ey3 => ?_)
  have h := dw_nmS ey3 h
  refine lv_lstore_n (lv' := [(0, .long y3)]) hx hb dJ13_bitCount_95d88_33 rfl hl (by decide) rfl (fun ls hl => ?_)
  refine lv_lload_n hx hb dJ13_bitCount_95d88_34 rfl (lv_at hl 0 rfl) ?_
  refine lv_lload_n hx hb dJ13_bitCount_95d88_35 rfl (lv_at hl 0 rfl) ?_
  refine lv_bipush (v := (8 : Int32)) hx hb dJ13_bitCount_95d88_36 (by decide) ?_
  refine lv_lushr (v := (dw_us y3 (8 : Int32))) hx hb dJ13_bitCount_95d88_38 rfl ?_
  refine lv_ladd hx hb dJ13_bitCount_95d88_39 ?_
  refine lv_topl (fun y4 ey4 => ?_)
  have h := dw_nmS ey4 h
  refine lv_lstore_n (lv' := [(0, .long y4)]) hx hb dJ13_bitCount_95d88_40 rfl hl (by decide) rfl (fun ls hl => ?_)
  refine lv_lload_n hx hb dJ13_bitCount_95d88_41 rfl (lv_at hl 0 rfl) ?_
  refine lv_lload_n hx hb dJ13_bitCount_95d88_42 rfl (lv_at hl 0 rfl) ?_
  refine lv_bipush (v := (16 : Int32)) hx hb dJ13_bitCount_95d88_43 (by decide) ?_
  refine lv_lushr (v := (dw_us y4 (16 : Int32))) hx hb dJ13_bitCount_95d88_45 rfl ?_
  refine lv_ladd hx hb dJ13_bitCount_95d88_46 ?_
  refine lv_topl (fun y5 ey5 => ?_)
  have h := dw_nmS ey5 h
  refine lv_lstore_n (lv' := [(0, .long y5)]) hx hb dJ13_bitCount_95d88_47 rfl hl (by decide) rfl (fun ls hl => ?_)
  refine lv_lload_n hx hb dJ13_bitCount_95d88_48 rfl (lv_at hl 0 rfl) ?_
  refine lv_lload_n hx hb dJ13_bitCount_95d88_49 rfl (lv_at hl 0 rfl) ?_
  refine lv_bipush (v := (32 : Int32)) hx hb dJ13_bitCount_95d88_50 (by decide) ?_
  refine lv_lushr (v := (dw_us y5 (32 : Int32))) hx hb dJ13_bitCount_95d88_52 rfl ?_
  refine lv_ladd hx hb dJ13_bitCount_95d88_53 ?_
  refine lv_topl (fun y6 ey6 => ?_)
  have h := dw_nmS ey6 h
  refine lv_lstore_n (lv' := [(0, .long y6)]) hx hb dJ13_bitCount_95d88_54 rfl hl (by decide) rfl (fun ls hl => ?_)
  refine lv_lload_n hx hb dJ13_bitCount_95d88_55 rfl (lv_at hl 0 rfl) ?_
  refine lv_l2i hx hb dJ13_bitCount_95d88_56 rfl ?_
  refine lv_bipush (v := (127 : Int32)) hx hb dJ13_bitCount_95d88_57 (by decide) ?_
  refine lv_iand hx hb dJ13_bitCount_95d88_59 ?_
  obtain rfl := dw_t1 h
  exact dw_iret C0 Z hr hlk dJ13_bitCount_95d88_60

def fX2_size (μ : dw_M) (i : Nat) : Int32 :=
   (fJ13_bitCount_95d88 (μ.2 i))
set_option maxHeartbeats 4000000 in
set_option maxRecDepth 100000 in
theorem kX2_size (l : Launch) (Γ : dw_G) (hj : dw_inj Γ) (μ : dw_M) (i : Nat) (hk_i : dw_kd i = 2) {r : Int32} (h : fX2_size μ i = r) : Met l yX2_size (dw_ws yX2_size cX2_size 1 (some .int)) (dw_rm 1 21) (dw_P Γ ([.ref (dw_ad Γ i)] : List Value) μ) (dw_Qi Γ r μ) 0 0 (dw_A Γ) := by
  refine dw_met (own := RX2) rfl rfl (Nat.le_of_ble_eq_true rfl) hj ?_
  intro p e s m below meth c C0 hr hlk Z ls hl
  have hx := C0.1
  have hb := C0.2.1
  have hl : lv_has ls 1 [(0, .ref (dw_ad Γ i))] := hl
  suffices key : ∀ (H : Heap) (locs : List Loc), dw_Z Γ (dw_A Γ) s.heap μ H locs → W p l e (dw_rm 1 21) s m ([.ref (dw_ad Γ i)] : List Value).toArray below meth c H locs 0 0 (MQ below (dw_Qi Γ r μ) ([.ref (dw_ad Γ i)] : List Value).toArray s 0 0 (dw_A Γ)) (F0 m 0 ls []) from key _ _ Z
  clear Z
  intro H locs Z
  unfold fX2_size at h
  refine lv_aload_n hx hb dX2_size_0 rfl (lv_at hl 0 rfl) ?_
  refine dw_g2_0 C0 Z hk_i tw_fX2_7 dX2_size_1 ?_
  refine dw_cSi C0 Z dw_hA (As := [.long (μ.2 i)]) (rest := []) (kJ13_bitCount_95d88 l Γ hj μ (μ.2 i) rfl) (dw_gS tw_lX2_17 tw_sJ13_bitCount_95d88 tw_iJ13 tw_kJ13_bitCount_95d88) dw_hJ13_bitCount_95d88 ⟨Nat.le_of_ble_eq_true rfl, Nat.le_of_ble_eq_true rfl⟩ ⟨Nat.zero_le _, Nat.zero_le _⟩ hl.1 (Nat.le_of_ble_eq_true rfl) rfl dX2_size_4 (fun H locs Z => ?_)
  obtain rfl := dw_t1 h
  exact dw_iret C0 Z hr hlk dX2_size_7

def fX2_clear (μ : dw_M) (i : Nat) : dw_M :=
  dw_nm (dw_sl μ i (0 : Int64)) (fun μ1 =>
   μ1)
set_option maxHeartbeats 4000000 in
set_option maxRecDepth 100000 in
theorem kX2_clear (l : Launch) (Γ : dw_G) (hj : dw_inj Γ) (μ : dw_M) (i : Nat) (hk_i : dw_kd i = 2) {ν : dw_M} (h : fX2_clear μ i = ν) : Met l yX2_clear (dw_ws yX2_clear cX2_clear 1 none) (dw_rm 0 0) (dw_P Γ ([.ref (dw_ad Γ i)] : List Value) μ) (dw_Qv Γ ν) 0 0 (dw_A Γ) := by
  refine dw_met (own := RX2) rfl rfl (Nat.le_of_ble_eq_true rfl) hj ?_
  intro p e s m below meth c C0 hr hlk Z ls hl
  have hx := C0.1
  have hb := C0.2.1
  have hl : lv_has ls 1 [(0, .ref (dw_ad Γ i))] := hl
  suffices key : ∀ (H : Heap) (locs : List Loc), dw_Z Γ (dw_A Γ) s.heap μ H locs → W p l e (dw_rm 0 0) s m ([.ref (dw_ad Γ i)] : List Value).toArray below meth c H locs 0 0 (MQ below (dw_Qv Γ ν) ([.ref (dw_ad Γ i)] : List Value).toArray s 0 0 (dw_A Γ)) (F0 m 0 ls []) from key _ _ Z
  clear Z
  intro H locs Z
  unfold fX2_clear at h
  refine lv_aload_n hx hb dX2_clear_0 rfl (lv_at hl 0 rfl) ?_
  refine lv_lconst (v := (0 : Int64)) hx hb dX2_clear_1 (by decide) ?_
  refine dw_p2_0 C0 Z dw_hA hk_i tw_fX2_7 dX2_clear_2 (fun μ1 eμ1 H locs Z => ?_)
  have h := dw_nmS eμ1 h
  obtain rfl := dw_t1 h
  exact dw_vret C0 Z hr hlk dX2_clear_5

def fX2_copyFrom (μ : dw_M) (i : Nat) (j : Nat) : dw_M :=
  dw_nm (dw_sl μ i (μ.2 j)) (fun μ1 =>
   μ1)
set_option maxHeartbeats 4000000 in
set_option maxRecDepth 100000 in
theorem kX2_copyFrom (l : Launch) (Γ : dw_G) (hj : dw_inj Γ) (μ : dw_M) (i : Nat) (hk_i : dw_kd i = 2) (j : Nat) (hk_j : dw_kd j = 2) {ν : dw_M} (h : fX2_copyFrom μ i j = ν) : Met l yX2_copyFrom (dw_ws yX2_copyFrom cX2_copyFrom 2 none) (dw_rm 0 0) (dw_P Γ ([.ref (dw_ad Γ i), .ref (dw_ad Γ j)] : List Value) μ) (dw_Qv Γ ν) 0 0 (dw_A Γ) := by
  refine dw_met (own := RX2) rfl rfl (Nat.le_of_ble_eq_true rfl) hj ?_
  intro p e s m below meth c C0 hr hlk Z ls hl
  have hx := C0.1
  have hb := C0.2.1
  have hl : lv_has ls 2 [(0, .ref (dw_ad Γ i)), (1, .ref (dw_ad Γ j))] := hl
  suffices key : ∀ (H : Heap) (locs : List Loc), dw_Z Γ (dw_A Γ) s.heap μ H locs → W p l e (dw_rm 0 0) s m ([.ref (dw_ad Γ i), .ref (dw_ad Γ j)] : List Value).toArray below meth c H locs 0 0 (MQ below (dw_Qv Γ ν) ([.ref (dw_ad Γ i), .ref (dw_ad Γ j)] : List Value).toArray s 0 0 (dw_A Γ)) (F0 m 0 ls []) from key _ _ Z
  clear Z
  intro H locs Z
  unfold fX2_copyFrom at h
  refine lv_aload_n hx hb dX2_copyFrom_0 rfl (lv_at hl 0 rfl) ?_
  refine lv_aload_n hx hb dX2_copyFrom_1 rfl (lv_at hl 1 rfl) ?_
  refine dw_g2_0 C0 Z hk_j tw_fX2_7 dX2_copyFrom_2 ?_
  refine dw_p2_0 C0 Z dw_hA hk_i tw_fX2_7 dX2_copyFrom_5 (fun μ1 eμ1 H locs Z => ?_)
  have h := dw_nmS eμ1 h
  obtain rfl := dw_t1 h
  exact dw_vret C0 Z hr hlk dX2_copyFrom_8

def fX3_set (μ : dw_M) (i : Nat) (a1 : Int32) (a2 : Int32) (a3 : Int32) (a4 : Int32) (a5 : Int32) : dw_M :=
  dw_nm (dw_st μ i 0 a1) (fun μ1 =>
  dw_nm (dw_st μ1 i 1 a2) (fun μ2 =>
  dw_nm (dw_st μ2 i 2 a3) (fun μ3 =>
  dw_nm (dw_st μ3 i 3 a4) (fun μ4 =>
  dw_nm (dw_st μ4 i 4 a5) (fun μ5 =>
   μ5)))))
set_option maxHeartbeats 4000000 in
set_option maxRecDepth 100000 in
theorem kX3_set (l : Launch) (Γ : dw_G) (hj : dw_inj Γ) (μ : dw_M) (i : Nat) (hk_i : dw_kd i = 3) (a1 : Int32) (a2 : Int32) (a3 : Int32) (a4 : Int32) (a5 : Int32) {ν : dw_M} (h : fX3_set μ i a1 a2 a3 a4 a5 = ν) : Met l yX3_set (dw_ws yX3_set cX3_set 6 none) (dw_rm 0 0) (dw_P Γ ([.ref (dw_ad Γ i), .int a1, .int a2, .int a3, .int a4, .int a5] : List Value) μ) (dw_Qv Γ ν) 0 0 (dw_A Γ) := by
  refine dw_met (own := RX3) rfl rfl (Nat.le_of_ble_eq_true rfl) hj ?_
  intro p e s m below meth c C0 hr hlk Z ls hl
  have hx := C0.1
  have hb := C0.2.1
  have hl : lv_has ls 6 [(0, .ref (dw_ad Γ i)), (1, .int a1), (2, .int a2), (3, .int a3), (4, .int a4), (5, .int a5)] := hl
  suffices key : ∀ (H : Heap) (locs : List Loc), dw_Z Γ (dw_A Γ) s.heap μ H locs → W p l e (dw_rm 0 0) s m ([.ref (dw_ad Γ i), .int a1, .int a2, .int a3, .int a4, .int a5] : List Value).toArray below meth c H locs 0 0 (MQ below (dw_Qv Γ ν) ([.ref (dw_ad Γ i), .int a1, .int a2, .int a3, .int a4, .int a5] : List Value).toArray s 0 0 (dw_A Γ)) (F0 m 0 ls []) from key _ _ Z
  clear Z
  intro H locs Z
  unfold fX3_set at h
  refine lv_aload_n hx hb dX3_set_0 rfl (lv_at hl 0 rfl) ?_
  refine lv_iload_n hx hb dX3_set_1 rfl (lv_at hl 1 rfl) ?_
  refine dw_p3_0 C0 Z dw_hA hk_i tw_fX3_7 dX3_set_2 (fun μ1 eμ1 H locs Z => ?_)
  have h := dw_nmS eμ1 h
  refine lv_aload_n hx hb dX3_set_5 rfl (lv_at hl 0 rfl) ?_
  refine lv_iload_n hx hb dX3_set_6 rfl (lv_at hl 2 rfl) ?_
  refine dw_p3_1 C0 Z dw_hA hk_i tw_fX3_13 dX3_set_7 (fun μ2 eμ2 H locs Z => ?_)
  have h := dw_nmS eμ2 h
  refine lv_aload_n hx hb dX3_set_10 rfl (lv_at hl 0 rfl) ?_
  refine lv_iload_n hx hb dX3_set_11 rfl (lv_at hl 3 rfl) ?_
  refine dw_p3_2 C0 Z dw_hA hk_i tw_fX3_16 dX3_set_12 (fun μ3 eμ3 H locs Z => ?_)
  have h := dw_nmS eμ3 h
  refine lv_aload_n hx hb dX3_set_15 rfl (lv_at hl 0 rfl) ?_
  refine lv_iload hx hb dX3_set_16 (lv_at hl 4 rfl) ?_
  refine dw_p3_3 C0 Z dw_hA hk_i tw_fX3_19 dX3_set_18 (fun μ4 eμ4 H locs Z => ?_)
  have h := dw_nmS eμ4 h
  refine lv_aload_n hx hb dX3_set_21 rfl (lv_at hl 0 rfl) ?_
  refine lv_iload hx hb dX3_set_22 (lv_at hl 5 rfl) ?_
  refine dw_p3_4 C0 Z dw_hA hk_i tw_fX3_22 dX3_set_24 (fun μ5 eμ5 H locs Z => ?_)
  have h := dw_nmS eμ5 h
  obtain rfl := dw_t1 h
  exact dw_vret C0 Z hr hlk dX3_set_27
