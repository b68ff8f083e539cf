def fX10_pass (μ : dw_M) (a1 : Int32) : Option (Int32 × dw_M) :=
  dw_bd (fX10_pipeOf μ a1 (7 : Int32)) (fun r2 =>
  dw_jm (fun (x3 : Int32) =>
  dw_bd (fX10_setPipe μ a1 (10 : Int32) (0 : Int32)) (fun μ5 =>
  dw_bd (fX10_pipeOf μ5 a1 (8 : Int32)) (fun r7 =>
  if r7 = (1 : Int32) then (
  some ((0 : Int32), μ5))
  else (
  if r2 < 0 then (
  some ((0 : Int32), μ5))
  else (
  if x3 = 0 then (
  dw_bd (fX10_pipeOf μ5 a1 (9 : Int32)) (fun r12 =>
  dw_bd (fX10_bears μ5 a1) (fun r14 =>
  dw_nm (fX10_lesser r12 r14) (fun x15 =>
  dw_jm (fun (x16 : Int32) (μ17 : dw_M) =>
  dw_bd (fX10_pipeOf μ17 a1 (9 : Int32)) (fun r19 =>
  dw_bd (fX10_setPipe μ17 a1 (9 : Int32) (r19 - x16)) (fun μ21 =>
  dw_bd (fX10_setPipe μ21 a1 (10 : Int32) x16) (fun μ23 =>
  if (100 : Int32) ≤ r2 then (
  some (x16, μ23))
  else (
  some ((0 : Int32), μ23)))))) (fun k159 =>
  if (100 : Int32) ≤ r2 then (
  dw_gd (dw_ok (((9 : Int32) + r2) - (100 : Int32)) 800) (
  dw_nm (dw_st μ5 143 (((9 : Int32) + r2) - (100 : Int32)).toNatClampNeg ((μ5.1 143 (((9 : Int32) + r2) - (100 : Int32)).toNatClampNeg) + x15)) (fun μ27 =>
  k159 x15 μ27)))
  else (
  dw_bd (fX10_holds μ5 r2) (fun r29 =>
  dw_bd (fX10_pipeOf μ5 r2 (9 : Int32)) (fun r31 =>
  dw_nm (fX10_lesser x15 (r29 - r31)) (fun x32 =>
  dw_bd (fX10_pipeOf μ5 r2 (9 : Int32)) (fun r34 =>
  dw_bd (fX10_setPipe μ5 r2 (9 : Int32) (r34 + x32)) (fun μ36 =>
  k159 x32 μ36)))))))))))
  else (
  some ((0 : Int32), μ5))))))) (fun k49 =>
  dw_jm (k49 (0 : Int32)) (fun k48 =>
  if r2 < (100 : Int32) then (
  k48)
  else (
  dw_gd (dw_ok (((320 : Int32) + r2) - (100 : Int32)) 800) (
  dw_bd (fX10_pipeOf μ a1 (11 : Int32)) (fun r40 =>
  dw_bd (fX10_levelAt μ a1 (r40 - (1 : Int32))) (fun r42 =>
  if (μ.1 143 (((320 : Int32) + r2) - (100 : Int32)).toNatClampNeg) ≤ r42 then (
  k48)
  else (
  k49 (1 : Int32)))))))))
set_option maxHeartbeats 4000000 in
set_option maxRecDepth 100000 in
theorem kX10_pass (l : Launch) (Γ : dw_G) (hj : dw_inj Γ) (μ : dw_M) (a1 : Int32) {r : Int32} {ν : dw_M} (h : fX10_pass μ a1 = some (r, ν)) : Met l yX10_pass (dw_ws yX10_pass cX10_pass 5 (some .int)) (dw_rm 2 44) (dw_P Γ ([.ref (dw_ad Γ 142), .int a1] : List Value) μ) (dw_Qi Γ r ν) 0 0 (dw_A Γ) := by
  refine dw_met (own := RX10) rfl rfl (Nat.le_of_ble_eq_true rfl) hj ?_
  intro p e s m below meth c C0 hr hlk Z ls hl
  have hx := C0.1
  have hb := C0.2.1
  have hl : lv_has ls 5 [(0, .ref (dw_ad Γ 142)), (1, .int a1)] := hl
  suffices key : ∀ (H : Heap) (locs : List Loc), dw_Z Γ (dw_A Γ) s.heap μ H locs → W p l e (dw_rm 2 44) s m ([.ref (dw_ad Γ 142), .int a1] : List Value).toArray below meth c H locs 0 0 (MQ below (dw_Qi Γ r ν) ([.ref (dw_ad Γ 142), .int a1] : List Value).toArray s 0 0 (dw_A Γ)) (F0 m 0 ls []) from key _ _ Z
  clear Z
  intro H locs Z
  unfold fX10_pass at h
  refine lv_aload_n hx hb dX10_pass_0 rfl (lv_at hl 0 rfl) ?_
  refine lv_iload_n hx hb dX10_pass_1 rfl (lv_at hl 1 rfl) ?_
  refine lv_bipush (v := (7 : Int32)) hx hb dX10_pass_2 (by decide) ?_
  obtain ⟨r2, hc1, h⟩ := dw_bdS h
  refine dw_cVi C0 Z dw_hA (dw_lt dw_kc142 (by decide)) (dw_cz10 dw_kc142) rfl (As := [.int a1, .int (7 : Int32)]) (rest := []) (kX10_pipeOf l Γ hj μ a1 (7 : Int32) hc1) (dw_gV tw_lX10_55 tw_vX10_pipeOf tw_eX10_pipeOf tw_iX10 tw_kX10_pipeOf) dw_hX10_pipeOf ⟨Nat.le_of_ble_eq_true rfl, Nat.le_of_ble_eq_true rfl⟩ ⟨Nat.zero_le _, Nat.zero_le _⟩ hl.1 (Nat.le_of_ble_eq_true rfl) rfl dX10_pass_4 (fun H locs Z => ?_)
  refine lv_istore_n (lv' := [(2, .int r2), (0, .ref (dw_ad Γ 142)), (1, .int a1)]) hx hb dX10_pass_7 rfl hl (by decide) rfl (fun ls hl => ?_)
  refine lv_iload_n hx hb dX10_pass_8 rfl (lv_at hl 0 rfl) ?_
  refine lv_bipush (v := (100 : Int32)) hx hb dX10_pass_9 (by decide) ?_
  obtain ⟨k49, ek49, h⟩ := dw_jnS h
  have J49 : ∀ (x3 : Int32) (H : Heap) (locs : List Loc) (ls : Array Slot), dw_Z Γ (dw_A Γ) s.heap μ H locs → lv_has ls 5 [(0, .ref (dw_ad Γ 142)), (1, .int a1), (2, .int r2)] → k49 x3 = some (r, ν) → W p l e (dw_rm 2 44) s m ([.ref (dw_ad Γ 142), .int a1] : List Value).toArray below meth c H locs 0 0 (MQ below (dw_Qi Γ r ν) ([.ref (dw_ad Γ 142), .int a1] : List Value).toArray s 0 0 (dw_A Γ)) (F0 m 49 ls [.int x3]) := by
    clear h
    intro x3 H locs ls Z hl h
    rw [ek49] at h
    dsimp only at h
    refine lv_istore_n (lv' := [(3, .int x3), (0, .ref (dw_ad Γ 142)), (1, .int a1), (2, .int r2)]) hx hb dX10_pass_49 rfl hl (by decide) rfl (fun ls hl => ?_)
    refine lv_aload_n hx hb dX10_pass_50 rfl (lv_at hl 1 rfl) ?_
    refine lv_iload_n hx hb dX10_pass_51 rfl (lv_at hl 2 rfl) ?_
    refine lv_bipush (v := (10 : Int32)) hx hb dX10_pass_52 (by decide) ?_
    refine lv_iconst (v := (0 : Int32)) hx hb dX10_pass_54 (by decide) ?_
    obtain ⟨μ5, hc4, h⟩ := dw_bdS h
    refine dw_cVv C0 Z dw_hA (dw_lt dw_kc142 (by decide)) (dw_cz10 dw_kc142) rfl (As := [.int a1, .int (10 : Int32), .int (0 : Int32)]) (rest := []) (kX10_setPipe l Γ hj μ a1 (10 : Int32) (0 : Int32) hc4) (dw_gV tw_lX10_51 tw_vX10_setPipe tw_eX10_setPipe tw_iX10 tw_kX10_setPipe) dw_hX10_setPipe ⟨Nat.le_of_ble_eq_true rfl, Nat.le_of_ble_eq_true rfl⟩ ⟨Nat.zero_le _, Nat.zero_le _⟩ hl.1 (Nat.le_of_ble_eq_true rfl) rfl dX10_pass_55 (fun H locs Z => ?_)
    refine lv_aload_n hx hb dX10_pass_58 rfl (lv_at hl 1 rfl) ?_
    refine lv_iload_n hx hb dX10_pass_59 rfl (lv_at hl 2 rfl) ?_
    refine lv_bipush (v := (8 : Int32)) hx hb dX10_pass_60 (by decide) ?_
    obtain ⟨r7, hc6, h⟩ := dw_bdS h
    refine dw_cVi C0 Z dw_hA (dw_lt dw_kc142 (by decide)) (dw_cz10 dw_kc142) rfl (As := [.int a1, .int (8 : Int32)]) (rest := []) (kX10_pipeOf l Γ hj μ5 a1 (8 : Int32) hc6) (dw_gV tw_lX10_55 tw_vX10_pipeOf tw_eX10_pipeOf tw_iX10 tw_kX10_pipeOf) dw_hX10_pipeOf ⟨Nat.le_of_ble_eq_true rfl, Nat.le_of_ble_eq_true rfl⟩ ⟨Nat.zero_le _, Nat.zero_le _⟩ hl.1 (Nat.le_of_ble_eq_true rfl) rfl dX10_pass_62 (fun H locs Z => ?_)
    refine lv_iconst (v := (1 : Int32)) hx hb dX10_pass_65 (by decide) ?_
    refine lv_icmp_eq (tgt := 77) hx hb dX10_pass_66 (by decide) (fun c8 => ?_) (fun c8 => ?_)
    · have h := dw_ifT c8 h
      refine lv_iconst (v := (0 : Int32)) hx hb dX10_pass_77 (by decide) ?_
      obtain ⟨rfl, rfl⟩ := dw_s2 h
      exact dw_iret C0 Z hr hlk dX10_pass_78
    · have h := dw_ifF c8 h
      refine lv_iload_n hx hb dX10_pass_69 rfl (lv_at hl 3 rfl) ?_
      refine lv_if_lt (tgt := 77) hx hb dX10_pass_70 (by decide) (fun c9 => ?_) (fun c9 => ?_)
      · have h := dw_ifT c9 h
        refine lv_iconst (v := (0 : Int32)) hx hb dX10_pass_77 (by decide) ?_
        obtain ⟨rfl, rfl⟩ := dw_s2 h
        exact dw_iret C0 Z hr hlk dX10_pass_78
      · have h := dw_ifF c9 h
        refine lv_iload_n hx hb dX10_pass_73 rfl (lv_at hl 0 rfl) ?_
        refine lv_if_eq (tgt := 79) hx hb dX10_pass_74 (by decide) (fun c10 => ?_) (fun c10 => ?_)
        · have h := dw_ifT c10 h
          refine lv_aload_n hx hb dX10_pass_79 rfl (lv_at hl 1 rfl) ?_
          refine lv_iload_n hx hb dX10_pass_80 rfl (lv_at hl 2 rfl) ?_
          refine lv_bipush (v := (9 : Int32)) hx hb dX10_pass_81 (by decide) ?_
          obtain ⟨r12, hc11, h⟩ := dw_bdS h
          refine dw_cVi C0 Z dw_hA (dw_lt dw_kc142 (by decide)) (dw_cz10 dw_kc142) rfl (As := [.int a1, .int (9 : Int32)]) (rest := []) (kX10_pipeOf l Γ hj μ5 a1 (9 : Int32) hc11) (dw_gV tw_lX10_55 tw_vX10_pipeOf tw_eX10_pipeOf tw_iX10 tw_kX10_pipeOf) dw_hX10_pipeOf ⟨Nat.le_of_ble_eq_true rfl, Nat.le_of_ble_eq_true rfl⟩ ⟨Nat.zero_le _, Nat.zero_le _⟩ hl.1 (Nat.le_of_ble_eq_true rfl) rfl dX10_pass_83 (fun H locs Z => ?_)
          refine lv_aload_n hx hb dX10_pass_86 rfl (lv_at hl 1 rfl) ?_
          refine lv_iload_n hx hb dX10_pass_87 rfl (lv_at hl 2 rfl) ?_
          obtain ⟨r14, hc13, h⟩ := dw_bdS h
          refine dw_cVi C0 Z dw_hA (dw_lt dw_kc142 (by decide)) (dw_cz10 dw_kc142) rfl (As := [.int a1]) (rest := [.int r12]) (kX10_bears l Γ hj μ5 a1 hc13) (dw_gV tw_lX10_74 tw_vX10_bears tw_eX10_bears tw_iX10 tw_kX10_bears) dw_hX10_bears ⟨Nat.le_of_ble_eq_true rfl, Nat.le_of_ble_eq_true rfl⟩ ⟨Nat.zero_le _, Nat.zero_le _⟩ hl.1 (Nat.le_of_ble_eq_true rfl) rfl dX10_pass_88 (fun H locs Z => ?_)
          refine dw_cSi C0 Z dw_hA (As := [.int r12, .int r14]) (rest := []) (kX10_lesser l Γ hj μ5 r12 r14 rfl) (dw_gS tw_lX10_77 tw_sX10_lesser tw_iX10 tw_kX10_lesser) dw_hX10_lesser ⟨Nat.le_of_ble_eq_true rfl, Nat.le_of_ble_eq_true rfl⟩ ⟨Nat.zero_le _, Nat.zero_le _⟩ hl.1 (Nat.le_of_ble_eq_true rfl) rfl dX10_pass_91 (fun H locs Z => ?_)
          refine lv_topi (fun x15 ex15 => ?_)
          have h := dw_nmS ex15 h
          refine lv_istore (lv' := [(4, .int x15), (3, .int x3), (0, .ref (dw_ad Γ 142)), (1, .int a1), (2, .int r2)]) hx hb dX10_pass_94 hl (by decide) rfl (fun ls hl => ?_)
          refine lv_iload_n hx hb dX10_pass_96 rfl (lv_at hl 4 rfl) ?_
          refine lv_bipush (v := (100 : Int32)) hx hb dX10_pass_97 (by decide) ?_
          obtain ⟨k159, ek159, h⟩ := dw_jnS h
          have J159 : ∀ (x16 : Int32) (μ17 : dw_M) (H : Heap) (locs : List Loc) (ls : Array Slot), dw_Z Γ (dw_A Γ) s.heap μ17 H locs → lv_has ls 5 [(0, .ref (dw_ad Γ 142)), (1, .int a1), (2, .int r2), (4, .int x16)] → k159 x16 μ17 = some (r, ν) → W p l e (dw_rm 2 44) s m ([.ref (dw_ad Γ 142), .int a1] : List Value).toArray below meth c H locs 0 0 (MQ below (dw_Qi Γ r ν) ([.ref (dw_ad Γ 142), .int a1] : List Value).toArray s 0 0 (dw_A Γ)) (F0 m 159 ls []) := by
            clear h
            intro x16 μ17 H locs ls Z hl h
            rw [ek159] at h
            dsimp only at h
            refine lv_aload_n hx hb dX10_pass_159 rfl (lv_at hl 0 rfl) ?_
            refine lv_iload_n hx hb dX10_pass_160 rfl (lv_at hl 1 rfl) ?_
            refine lv_bipush (v := (9 : Int32)) hx hb dX10_pass_161 (by decide) ?_
            refine lv_aload_n hx hb dX10_pass_163 rfl (lv_at hl 0 rfl) ?_
            refine lv_iload_n hx hb dX10_pass_164 rfl (lv_at hl 1 rfl) ?_
            refine lv_bipush (v := (9 : Int32)) hx hb dX10_pass_165 (by decide) ?_
            obtain ⟨r19, hc18, h⟩ := dw_bdS h
            refine dw_cVi C0 Z dw_hA (dw_lt dw_kc142 (by decide)) (dw_cz10 dw_kc142) rfl (As := [.int a1, .int (9 : Int32)]) (rest := [.int (9 : Int32), .int a1, .ref (dw_ad Γ 142)]) (kX10_pipeOf l Γ hj μ17 a1 (9 : Int32) hc18) (dw_gV tw_lX10_55 tw_vX10_pipeOf tw_eX10_pipeOf tw_iX10 tw_kX10_pipeOf) dw_hX10_pipeOf ⟨Nat.le_of_ble_eq_true rfl, Nat.le_of_ble_eq_true rfl⟩ ⟨Nat.zero_le _, Nat.zero_le _⟩ hl.1 (Nat.le_of_ble_eq_true rfl) rfl dX10_pass_167 (fun H locs Z => ?_)
            refine lv_iload hx hb dX10_pass_170 (lv_at hl 3 rfl) ?_
            refine lv_isub hx hb dX10_pass_172 ?_
            obtain ⟨μ21, hc20, h⟩ := dw_bdS h
            refine dw_cVv C0 Z dw_hA (dw_lt dw_kc142 (by decide)) (dw_cz10 dw_kc142) rfl (As := [.int a1, .int (9 : Int32), .int (r19 - x16)]) (rest := []) (kX10_setPipe l Γ hj μ17 a1 (9 : Int32) (r19 - x16) hc20) (dw_gV tw_lX10_51 tw_vX10_setPipe tw_eX10_setPipe tw_iX10 tw_kX10_setPipe) dw_hX10_setPipe ⟨Nat.le_of_ble_eq_true rfl, Nat.le_of_ble_eq_true rfl⟩ ⟨Nat.zero_le _, Nat.zero_le _⟩ hl.1 (Nat.le_of_ble_eq_true rfl) rfl dX10_pass_173 (fun H locs Z => ?_)
            refine lv_aload_n hx hb dX10_pass_176 rfl (lv_at hl 0 rfl) ?_
            refine lv_iload_n hx hb dX10_pass_177 rfl (lv_at hl 1 rfl) ?_
            refine lv_bipush (v := (10 : Int32)) hx hb dX10_pass_178 (by decide) ?_
            refine lv_iload hx hb dX10_pass_180 (lv_at hl 3 rfl) ?_
            obtain ⟨μ23, hc22, h⟩ := dw_bdS h
            refine dw_cVv C0 Z dw_hA (dw_lt dw_kc142 (by decide)) (dw_cz10 dw_kc142) rfl (As := [.int a1, .int (10 : Int32), .int x16]) (rest := []) (kX10_setPipe l Γ hj μ21 a1 (10 : Int32) x16 hc22) (dw_gV tw_lX10_51 tw_vX10_setPipe tw_eX10_setPipe tw_iX10 tw_kX10_setPipe) dw_hX10_setPipe ⟨Nat.le_of_ble_eq_true rfl, Nat.le_of_ble_eq_true rfl⟩ ⟨Nat.zero_le _, Nat.zero_le _⟩ hl.1 (Nat.le_of_ble_eq_true rfl) rfl dX10_pass_182 (fun H locs Z => ?_)
            refine lv_iload_n hx hb dX10_pass_185 rfl (lv_at hl 2 rfl) ?_
            refine lv_bipush (v := (100 : Int32)) hx hb dX10_pass_186 (by decide) ?_
            refine lv_icmp_ge (tgt := 195) hx hb dX10_pass_188 (by decide) (fun c24 => ?_) (fun c24 => ?_)
            · have h := dw_ifT c24 h
              refine lv_iload hx hb dX10_pass_195 (lv_at hl 3 rfl) ?_
              obtain ⟨rfl, rfl⟩ := dw_s2 h
              exact dw_iret C0 Z hr hlk dX10_pass_197
            · have h := dw_ifF c24 h
              refine lv_iconst (v := (0 : Int32)) hx hb dX10_pass_191 (by decide) ?_
              refine lv_goto (tgt := 197) hx hb dX10_pass_192 (by decide) ?_
              obtain ⟨rfl, rfl⟩ := dw_s2 h
              exact dw_iret C0 Z hr hlk dX10_pass_197
          refine lv_icmp_ge (tgt := 142) hx hb dX10_pass_99 (by decide) (fun c25 => ?_) (fun c25 => ?_)
          · have h := dw_ifT c25 h
            refine lv_aload_n hx hb dX10_pass_142 rfl (lv_at hl 2 rfl) ?_
            refine dw_g10_0 (t := 143) C0 Z dw_kc142 tw_fX10_7 rfl dX10_pass_143 ?_
            refine lv_bipush (v := (9 : Int32)) hx hb dX10_pass_146 (by decide) ?_
            refine lv_iload_n hx hb dX10_pass_148 rfl (lv_at hl 4 rfl) ?_
            refine lv_iadd hx hb dX10_pass_149 ?_
            refine lv_bipush (v := (100 : Int32)) hx hb dX10_pass_150 (by decide) ?_
            refine lv_isub hx hb dX10_pass_152 ?_
            refine lv_dup2_11 hx hb dX10_pass_153 rfl rfl ?_
            obtain ⟨g26, h⟩ := dw_gdS h
            refine dw_ald C0 Z dw_kc143 dw_lc143 g26 dX10_pass_154 ?_
            refine lv_iload hx hb dX10_pass_155 (lv_at hl 0 rfl) ?_
            refine lv_iadd hx hb dX10_pass_157 ?_
            refine dw_ast C0 Z dw_hA dw_kc143 dw_lc143 g26 dX10_pass_158 (fun μ27 eμ27 H locs Z => ?_)
            have h := dw_nmS eμ27 h
            exact J159 x15 μ27 H locs ls Z (lv_sub hl [2, 3, 4, 0] rfl) h
          · have h := dw_ifF c25 h
            refine lv_iload hx hb dX10_pass_102 (lv_at hl 0 rfl) ?_
            refine lv_aload_n hx hb dX10_pass_104 rfl (lv_at hl 2 rfl) ?_
            refine lv_iload_n hx hb dX10_pass_105 rfl (lv_at hl 4 rfl) ?_
            obtain ⟨r29, hc28, h⟩ := dw_bdS h
            refine dw_cVi C0 Z dw_hA (dw_lt dw_kc142 (by decide)) (dw_cz10 dw_kc142) rfl (As := [.int r2]) (rest := [.int x15]) (kX10_holds l Γ hj μ5 r2 hc28) (dw_gV tw_lX10_80 tw_vX10_holds tw_eX10_holds tw_iX10 tw_kX10_holds) dw_hX10_holds ⟨Nat.le_of_ble_eq_true rfl, Nat.le_of_ble_eq_true rfl⟩ ⟨Nat.zero_le _, Nat.zero_le _⟩ hl.1 (Nat.le_of_ble_eq_true rfl) rfl dX10_pass_106 (fun H locs Z => ?_)
            refine lv_aload_n hx hb dX10_pass_109 rfl (lv_at hl 2 rfl) ?_
            refine lv_iload_n hx hb dX10_pass_110 rfl (lv_at hl 4 rfl) ?_
            refine lv_bipush (v := (9 : Int32)) hx hb dX10_pass_111 (by decide) ?_
            obtain ⟨r31, hc30, h⟩ := dw_bdS h
            refine dw_cVi C0 Z dw_hA (dw_lt dw_kc142 (by decide)) (dw_cz10 dw_kc142) rfl (As := [.int r2, .int (9 : Int32)]) (rest := [.int r29, .int x15]) (kX10_pipeOf l Γ hj μ5 r2 (9 : Int32) hc30) (dw_gV tw_lX10_55 tw_vX10_pipeOf tw_eX10_pipeOf tw_iX10 tw_kX10_pipeOf) dw_hX10_pipeOf ⟨Nat.le_of_ble_eq_true rfl, Nat.le_of_ble_eq_true rfl⟩ ⟨Nat.zero_le _, Nat.zero_le _⟩ hl.1 (Nat.le_of_ble_eq_true rfl) rfl dX10_pass_113 (fun H locs Z => ?_)
            refine lv_isub hx hb dX10_pass_116 ?_
            refine dw_cSi C0 Z dw_hA (As := [.int x15, .int (r29 - r31)]) (rest := []) (kX10_lesser l Γ hj μ5 x15 (r29 - r31) rfl) (dw_gS tw_lX10_77 tw_sX10_lesser tw_iX10 tw_kX10_lesser) dw_hX10_lesser ⟨Nat.le_of_ble_eq_true rfl, Nat.le_of_ble_eq_true rfl⟩ ⟨Nat.zero_le _, Nat.zero_le _⟩ hl.1 (Nat.le_of_ble_eq_true rfl) rfl dX10_pass_117 (fun H locs Z => ?_)
            refine lv_topi (fun x32 ex32 => ?_)
            have h := dw_nmS ex32 h
            refine lv_istore (lv' := [(4, .int x32), (3, .int x3), (0, .ref (dw_ad Γ 142)), (1, .int a1), (2, .int r2)]) hx hb dX10_pass_120 hl (by decide) rfl (fun ls hl => ?_)
            refine lv_aload_n hx hb dX10_pass_122 rfl (lv_at hl 2 rfl) ?_
            refine lv_iload_n hx hb dX10_pass_123 rfl (lv_at hl 4 rfl) ?_
            refine lv_bipush (v := (9 : Int32)) hx hb dX10_pass_124 (by decide) ?_
            refine lv_aload_n hx hb dX10_pass_126 rfl (lv_at hl 2 rfl) ?_
            refine lv_iload_n hx hb dX10_pass_127 rfl (lv_at hl 4 rfl) ?_
            refine lv_bipush (v := (9 : Int32)) hx hb dX10_pass_128 (by decide) ?_
            obtain ⟨r34, hc33, h⟩ := dw_bdS h
            refine dw_cVi C0 Z dw_hA (dw_lt dw_kc142 (by decide)) (dw_cz10 dw_kc142) rfl (As := [.int r2, .int (9 : Int32)]) (rest := [.int (9 : Int32), .int r2, .ref (dw_ad Γ 142)]) (kX10_pipeOf l Γ hj μ5 r2 (9 : Int32) hc33) (dw_gV tw_lX10_55 tw_vX10_pipeOf tw_eX10_pipeOf tw_iX10 tw_kX10_pipeOf) dw_hX10_pipeOf ⟨Nat.le_of_ble_eq_true rfl, Nat.le_of_ble_eq_true rfl⟩ ⟨Nat.zero_le _, Nat.zero_le _⟩ hl.1 (Nat.le_of_ble_eq_true rfl) rfl dX10_pass_130 (fun H locs Z => ?_)
            refine lv_iload hx hb dX10_pass_133 (lv_at hl 0 rfl) ?_
            refine lv_iadd hx hb dX10_pass_135 ?_
            obtain ⟨μ36, hc35, h⟩ := dw_bdS h
            refine dw_cVv C0 Z dw_hA (dw_lt dw_kc142 (by decide)) (dw_cz10 dw_kc142) rfl (As := [.int r2, .int (9 : Int32), .int (r34 + x32)]) (rest := []) (kX10_setPipe l Γ hj μ5 r2 (9 : Int32) (r34 + x32) hc35) (dw_gV tw_lX10_51 tw_vX10_setPipe tw_eX10_setPipe tw_iX10 tw_kX10_setPipe) dw_hX10_setPipe ⟨Nat.le_of_ble_eq_true rfl, Nat.le_of_ble_eq_true rfl⟩ ⟨Nat.zero_le _, Nat.zero_le _⟩ hl.1 (Nat.le_of_ble_eq_true rfl) rfl dX10_pass_136 (fun H locs Z => ?_)
            refine lv_goto (tgt := 159) hx hb dX10_pass_139 (by decide) ?_
            exact J159 x32 μ36 H locs ls Z (lv_sub hl [2, 3, 4, 0] rfl) h
        · have h := dw_ifF c10 h
          refine lv_iconst (v := (0 : Int32)) hx hb dX10_pass_77 (by decide) ?_
          obtain ⟨rfl, rfl⟩ := dw_s2 h
          exact dw_iret C0 Z hr hlk dX10_pass_78
  obtain ⟨k48, ek48, h⟩ := dw_jnS h
  have J48 : ∀ (H : Heap) (locs : List Loc) (ls : Array Slot), dw_Z Γ (dw_A Γ) s.heap μ H locs → lv_has ls 5 [(0, .ref (dw_ad Γ 142)), (1, .int a1), (2, .int r2)] → k48 = some (r, ν) → W p l e (dw_rm 2 44) s m ([.ref (dw_ad Γ 142), .int a1] : List Value).toArray below meth c H locs 0 0 (MQ below (dw_Qi Γ r ν) ([.ref (dw_ad Γ 142), .int a1] : List Value).toArray s 0 0 (dw_A Γ)) (F0 m 48 ls []) := by
    clear h
    intro  H locs ls Z hl h
    rw [ek48] at h
    refine lv_iconst (v := (0 : Int32)) hx hb dX10_pass_48 (by decide) ?_
    exact J49 (0 : Int32) H locs ls Z (lv_sub hl [0, 1, 2] rfl) h
  refine lv_icmp_lt (tgt := 48) hx hb dX10_pass_11 (by decide) (fun c37 => ?_) (fun c37 => ?_)
  · have h := dw_ifT c37 h
    exact J48 H locs ls Z (lv_sub hl [1, 2, 0] rfl) h
  · have h := dw_ifF c37 h
    refine lv_aload_n hx hb dX10_pass_14 rfl (lv_at hl 1 rfl) ?_
    refine dw_g10_0 (t := 143) C0 Z dw_kc142 tw_fX10_7 rfl dX10_pass_15 ?_
    refine lv_sipush (v := (320 : Int32)) hx hb dX10_pass_18 (by decide) ?_
    refine lv_iload_n hx hb dX10_pass_21 rfl (lv_at hl 0 rfl) ?_
    refine lv_iadd hx hb dX10_pass_22 ?_
    refine lv_bipush (v := (100 : Int32)) hx hb dX10_pass_23 (by decide) ?_
    refine lv_isub hx hb dX10_pass_25 ?_
    obtain ⟨g38, h⟩ := dw_gdS h
    refine dw_ald C0 Z dw_kc143 dw_lc143 g38 dX10_pass_26 ?_
    refine lv_aload_n hx hb dX10_pass_27 rfl (lv_at hl 1 rfl) ?_
    refine lv_iload_n hx hb dX10_pass_28 rfl (lv_at hl 2 rfl) ?_
    refine lv_aload_n hx hb dX10_pass_29 rfl (lv_at hl 1 rfl) ?_
    refine lv_iload_n hx hb dX10_pass_30 rfl (lv_at hl 2 rfl) ?_
    refine lv_bipush (v := (11 : Int32)) hx hb dX10_pass_31 (by decide) ?_
    obtain ⟨r40, hc39, h⟩ := dw_bdS h
    refine dw_cVi C0 Z dw_hA (dw_lt dw_kc142 (by decide)) (dw_cz10 dw_kc142) rfl (As := [.int a1, .int (11 : Int32)]) (rest := [.int a1, .ref (dw_ad Γ 142), .int (μ.1 143 (((320 : Int32) + r2) - (100 : Int32)).toNatClampNeg)]) (kX10_pipeOf l Γ hj μ a1 (11 : Int32) hc39) (dw_gV tw_lX10_55 tw_vX10_pipeOf tw_eX10_pipeOf tw_iX10 tw_kX10_pipeOf) dw_hX10_pipeOf ⟨Nat.le_of_ble_eq_true rfl, Nat.le_of_ble_eq_true rfl⟩ ⟨Nat.zero_le _, Nat.zero_le _⟩ hl.1 (Nat.le_of_ble_eq_true rfl) rfl dX10_pass_33 (fun H locs Z => ?_)
    refine lv_iconst (v := (1 : Int32)) hx hb dX10_pass_36 (by decide) ?_
    refine lv_isub hx hb dX10_pass_37 ?_
    obtain ⟨r42, hc41, h⟩ := dw_bdS h
    refine dw_cVi C0 Z dw_hA (dw_lt dw_kc142 (by decide)) (dw_cz10 dw_kc142) rfl (As := [.int a1, .int (r40 - (1 : Int32))]) (rest := [.int (μ.1 143 (((320 : Int32) + r2) - (100 : Int32)).toNatClampNeg)]) (kX10_levelAt l Γ hj μ a1 (r40 - (1 : Int32)) hc41) (dw_gV tw_lX10_68 tw_vX10_levelAt tw_eX10_levelAt tw_iX10 tw_kX10_levelAt) dw_hX10_levelAt ⟨Nat.le_of_ble_eq_true rfl, Nat.le_of_ble_eq_true rfl⟩ ⟨Nat.zero_le _, Nat.zero_le _⟩ hl.1 (Nat.le_of_ble_eq_true rfl) rfl dX10_pass_38 (fun H locs Z => ?_)
    refine lv_icmp_le (tgt := 48) hx hb dX10_pass_41 (by decide) (fun c43 => ?_) (fun c43 => ?_)
    · have h := dw_ifT c43 h
      exact J48 H locs ls Z (lv_sub hl [1, 2, 0] rfl) h
    · have h := dw_ifF c43 h
      refine lv_iconst (v := (1 : Int32)) hx hb dX10_pass_44 (by decide) ?_
      refine lv_goto (tgt := 49) hx hb dX10_pass_45 (by decide) ?_
      exact J49 (1 : Int32) H locs ls Z (lv_sub hl [1, 2, 0] rfl) h

def sX10_hour_20 (x6 : Int32) (x9 : Int32) (x10 : Int32) (μ11 : dw_M) : Option ((Int32 × Int32 × dw_M) ⊕ ((Int32 × dw_M))) :=
  if (μ11.1 143 (13 : Int32).toNatClampNeg) ≤ x10 then (
  some (.inr (x9, μ11)))
  else (
  dw_bd (fX10_rank μ11 x10) (fun r14 =>
  if r14 = x6 then (
  dw_b2 (fX10_pass μ11 x10) (fun r19 μ20 =>
  dw_nm (x9 + r19) (fun x21 =>
  dw_nm (x10 + (1 : Int32)) (fun x22 =>
  some (.inl (x21, x22, μ20))))))
  else (
  dw_nm (x9 + (0 : Int32)) (fun x16 =>
  dw_nm (x10 + (1 : Int32)) (fun x17 =>
  some (.inl (x16, x17, μ11)))))))
def sX10_hour_12  (x5 : Int32) (x6 : Int32) (μ7 : dw_M) : Option ((Int32 × Int32 × dw_M) ⊕ ((Int32 × dw_M))) :=
  if (20 : Int32) ≤ x6 then (
  some (.inr (x5, μ7)))
  else (
  dw_bd (dw_wh (fun v => sX10_hour_20 x6 v.1 v.2.1 v.2.2) 1000 (x5, (0 : Int32), μ7))
    (fun v => (fun x23 μ24 => dw_nm (x6 + (1 : Int32)) (fun x25 =>
  some (.inl (x23, x25, μ24)))) v.1 v.2))
def sX10_hour_66  (x28 : Int32) (μ29 : dw_M) : Option ((Int32 × dw_M) ⊕ ((dw_M))) :=
  if (μ29.1 143 (13 : Int32).toNatClampNeg) ≤ x28 then (
  some (.inr μ29))
  else (
  dw_bd (fX10_pipeOf μ29 x28 (6 : Int32)) (fun r32 =>
  if r32 ≤ 0 then (
  dw_bd (fX10_setPipe μ29 x28 (6 : Int32) (0 : Int32)) (fun μ35 =>
  dw_nm (x28 + (1 : Int32)) (fun x36 =>
  some (.inl (x36, μ35)))))
  else (
  dw_bd (fX10_pipeOf μ29 x28 (6 : Int32)) (fun r38 =>
  dw_bd (fX10_setPipe μ29 x28 (6 : Int32) (r38 - (1 : Int32))) (fun μ40 =>
  dw_nm (x28 + (1 : Int32)) (fun x41 =>
  some (.inl (x41, μ40))))))))
def fX10_hour (μ : dw_M) : Option (Int32 × dw_M) :=
  dw_bd (fX10_fall μ) (fun μ2 =>
  dw_bd (fX10_seep μ2) (fun μ4 =>
  dw_bd (dw_wh (fun v => sX10_hour_12 v.1 v.2.1 v.2.2) 1000 ((0 : Int32), (0 : Int32), μ4))
    (fun v => (fun x26 μ27 => dw_bd (dw_wh (fun v => sX10_hour_66 v.1 v.2) 1000 ((0 : Int32), μ27))
    (fun μ42 => dw_nm (dw_st μ42 143 (7 : Int32).toNatClampNeg ((μ42.1 143 (7 : Int32).toNatClampNeg) + (1 : Int32))) (fun μ43 =>
  some (x26, μ43)))) v.1 v.2)))
set_option maxHeartbeats 4000000 in
set_option maxRecDepth 100000 in
theorem kX10_hour (l : Launch) (Γ : dw_G) (hj : dw_inj Γ) (μ : dw_M)  {r : Int32} {ν : dw_M} (h : fX10_hour μ = some (r, ν)) : Met l yX10_hour (dw_ws yX10_hour cX10_hour 4 (some .int)) (dw_rm 5 115) (dw_P Γ ([.ref (dw_ad Γ 142)] : List Value) μ) (dw_Qi Γ r ν) 0 0 (dw_A Γ) := by
  refine dw_met (own := RX10) rfl rfl (Nat.le_of_ble_eq_true rfl) hj ?_
  intro p e s m below meth c C0 hr hlk Z ls hl
  have hx := C0.1
  have hb := C0.2.1
  have hl : lv_has ls 4 [(0, .ref (dw_ad Γ 142))] := hl
  suffices key : ∀ (H : Heap) (locs : List Loc), dw_Z Γ (dw_A Γ) s.heap μ H locs → W p l e (dw_rm 5 115) s m ([.ref (dw_ad Γ 142)] : List Value).toArray below meth c H locs 0 0 (MQ below (dw_Qi Γ r ν) ([.ref (dw_ad Γ 142)] : List Value).toArray s 0 0 (dw_A Γ)) (F0 m 0 ls []) from key _ _ Z
  clear Z
  intro H locs Z
  unfold fX10_hour at h
  refine lv_aload_n hx hb dX10_hour_0 rfl (lv_at hl 0 rfl) ?_
  obtain ⟨μ2, hc1, h⟩ := dw_bdS h
  refine dw_cVv C0 Z dw_hA (dw_lt dw_kc142 (by decide)) (dw_cz10 dw_kc142) rfl (As := []) (rest := []) (kX10_fall l Γ hj μ hc1) (dw_gV tw_lX10_92 tw_vX10_fall tw_eX10_fall tw_iX10 tw_kX10_fall) dw_hX10_fall ⟨Nat.le_of_ble_eq_true rfl, Nat.le_of_ble_eq_true rfl⟩ ⟨Nat.zero_le _, Nat.zero_le _⟩ hl.1 (Nat.le_of_ble_eq_true rfl) rfl dX10_hour_1 (fun H locs Z => ?_)
  refine lv_aload_n hx hb dX10_hour_4 rfl (lv_at hl 0 rfl) ?_
  obtain ⟨μ4, hc3, h⟩ := dw_bdS h
  refine dw_cVv C0 Z dw_hA (dw_lt dw_kc142 (by decide)) (dw_cz10 dw_kc142) rfl (As := []) (rest := []) (kX10_seep l Γ hj μ2 hc3) (dw_gV tw_lX10_95 tw_vX10_seep tw_eX10_seep tw_iX10 tw_kX10_seep) dw_hX10_seep ⟨Nat.le_of_ble_eq_true rfl, Nat.le_of_ble_eq_true rfl⟩ ⟨Nat.zero_le _, Nat.zero_le _⟩ hl.1 (Nat.le_of_ble_eq_true rfl) rfl dX10_hour_5 (fun H locs Z => ?_)
  refine lv_iconst (v := (0 : Int32)) hx hb dX10_hour_8 (by decide) ?_
  refine lv_istore_n (lv' := [(1, .int (0 : Int32)), (0, .ref (dw_ad Γ 142))]) hx hb dX10_hour_9 rfl hl (by decide) rfl (fun ls hl => ?_)
  refine lv_iconst (v := (0 : Int32)) hx hb dX10_hour_10 (by decide) ?_
  refine lv_istore_n (lv' := [(2, .int (0 : Int32)), (1, .int (0 : Int32)), (0, .ref (dw_ad Γ 142))]) hx hb dX10_hour_11 rfl hl (by decide) rfl (fun ls hl => ?_)
  obtain ⟨kc12, ekc12, h⟩ := dw_bdK h
  have E12 : ∀ (x26 : Int32) (μ27 : dw_M) (H : Heap) (locs : List Loc) (ls : Array Slot), dw_Z Γ (dw_A Γ) s.heap μ27 H locs → lv_has ls 4 [(0, .ref (dw_ad Γ 142)), (1, .int x26)] → kc12 (x26, μ27) = some (r, ν) → W p l e (dw_rm 5 115) s m ([.ref (dw_ad Γ 142)] : List Value).toArray below meth c H locs 0 0 (MQ below (dw_Qi Γ r ν) ([.ref (dw_ad Γ 142)] : List Value).toArray s 0 0 (dw_A Γ)) (F0 m 64 ls []) := by
    intro x26 μ27 H locs ls Z hl h
    rw [ekc12] at h
    dsimp only at h
    refine lv_iconst (v := (0 : Int32)) hx hb dX10_hour_64 (by decide) ?_
    refine lv_istore_n (lv' := [(2, .int (0 : Int32)), (0, .ref (dw_ad Γ 142)), (1, .int x26)]) hx hb dX10_hour_65 rfl hl (by decide) rfl (fun ls hl => ?_)
    obtain ⟨kc66, ekc66, h⟩ := dw_bdK h
    have E66 : ∀ (μ42 : dw_M) (H : Heap) (locs : List Loc) (ls : Array Slot), dw_Z Γ (dw_A Γ) s.heap μ42 H locs → lv_has ls 4 [(0, .ref (dw_ad Γ 142)), (1, .int x26)] → kc66 μ42 = some (r, ν) → W p l e (dw_rm 5 115) s m ([.ref (dw_ad Γ 142)] : List Value).toArray below meth c H locs 0 0 (MQ below (dw_Qi Γ r ν) ([.ref (dw_ad Γ 142)] : List Value).toArray s 0 0 (dw_A Γ)) (F0 m 113 ls []) := by
      intro μ42 H locs ls Z hl h
      rw [ekc66] at h
      dsimp only at h
      refine lv_aload_n hx hb dX10_hour_113 rfl (lv_at hl 0 rfl) ?_
      refine dw_g10_0 (t := 143) C0 Z dw_kc142 tw_fX10_7 rfl dX10_hour_114 ?_
      refine lv_bipush (v := (7 : Int32)) hx hb dX10_hour_117 (by decide) ?_
      refine lv_dup2_11 hx hb dX10_hour_119 rfl rfl ?_
      refine dw_ald C0 Z dw_kc143 dw_lc143 (by decide) dX10_hour_120 ?_
      refine lv_iconst (v := (1 : Int32)) hx hb dX10_hour_121 (by decide) ?_
      refine lv_iadd hx hb dX10_hour_122 ?_
      refine dw_ast C0 Z dw_hA dw_kc143 dw_lc143 (by decide) dX10_hour_123 (fun μ43 eμ43 H locs Z => ?_)
      have h := dw_nmS eμ43 h
      refine lv_iload_n hx hb dX10_hour_124 rfl (lv_at hl 1 rfl) ?_
      obtain ⟨rfl, rfl⟩ := dw_s2 h
      exact dw_iret C0 Z hr hlk dX10_hour_125
    have L66 : ∀ (n66 : Nat) (x28 : Int32) (μ29 : dw_M) (H : Heap) (locs : List Loc) (ls : Array Slot), dw_Z Γ (dw_A Γ) s.heap μ29 H locs → lv_has ls 4 [(0, .ref (dw_ad Γ 142)), (1, .int x26), (2, .int x28)] → dw_bd (dw_wh (fun v => sX10_hour_66 v.1 v.2) n66 (x28, μ29)) kc66 = some (r, ν) → W p l e (dw_rm 5 115) s m ([.ref (dw_ad Γ 142)] : List Value).toArray below meth c H locs 0 0 (MQ below (dw_Qi Γ r ν) ([.ref (dw_ad Γ 142)] : List Value).toArray s 0 0 (dw_A Γ)) (F0 m 66 ls []) := by
      clear h
      intro n66
      induction n66 with
      | zero =>
        intro x28 μ29 H locs ls Z hl h
        exact (dw_wh0 h).elim
      | succ n66 ih66 =>
        intro x28 μ29 H locs ls Z hl h
        obtain ⟨q66, hs, hq66⟩ := dw_whB h
        have h : sX10_hour_66 x28 μ29 = some q66 := hs
        unfold sX10_hour_66 at h
        refine lv_iload_n hx hb dX10_hour_66 rfl (lv_at hl 2 rfl) ?_
        refine lv_aload_n hx hb dX10_hour_67 rfl (lv_at hl 0 rfl) ?_
        refine dw_g10_0 (t := 143) C0 Z dw_kc142 tw_fX10_7 rfl dX10_hour_68 ?_
        refine lv_bipush (v := (13 : Int32)) hx hb dX10_hour_71 (by decide) ?_
        refine dw_ald C0 Z dw_kc143 dw_lc143 (by decide) dX10_hour_73 ?_
        refine lv_icmp_ge (tgt := 113) hx hb dX10_hour_74 (by decide) (fun c30 => ?_) (fun c30 => ?_)
        · have h := dw_ifT c30 h
          obtain rfl := dw_s1 h
          exact E66  μ29 H locs ls Z (lv_sub hl [0, 1] rfl) hq66
        · have h := dw_ifF c30 h
          refine lv_aload_n hx hb dX10_hour_77 rfl (lv_at hl 0 rfl) ?_
          refine lv_iload_n hx hb dX10_hour_78 rfl (lv_at hl 2 rfl) ?_
          refine lv_bipush (v := (6 : Int32)) hx hb dX10_hour_79 (by decide) ?_
          refine lv_aload_n hx hb dX10_hour_81 rfl (lv_at hl 0 rfl) ?_
          refine lv_iload_n hx hb dX10_hour_82 rfl (lv_at hl 2 rfl) ?_
          refine lv_bipush (v := (6 : Int32)) hx hb dX10_hour_83 (by decide) ?_
          obtain ⟨r32, hc31, h⟩ := dw_bdS h
          refine dw_cVi C0 Z dw_hA (dw_lt dw_kc142 (by decide)) (dw_cz10 dw_kc142) rfl (As := [.int x28, .int (6 : Int32)]) (rest := [.int (6 : Int32), .int x28, .ref (dw_ad Γ 142)]) (kX10_pipeOf l Γ hj μ29 x28 (6 : Int32) hc31) (dw_gV tw_lX10_55 tw_vX10_pipeOf tw_eX10_pipeOf tw_iX10 tw_kX10_pipeOf) dw_hX10_pipeOf ⟨Nat.le_of_ble_eq_true rfl, Nat.le_of_ble_eq_true rfl⟩ ⟨Nat.zero_le _, Nat.zero_le _⟩ hl.1 (Nat.le_of_ble_eq_true rfl) rfl dX10_hour_85 (fun H locs Z => ?_)
          refine lv_if_le (tgt := 103) hx hb dX10_hour_88 (by decide) (fun c33 => ?_) (fun c33 => ?_)
          · have h := dw_ifT c33 h
            refine lv_iconst (v := (0 : Int32)) hx hb dX10_hour_103 (by decide) ?_
            obtain ⟨μ35, hc34, h⟩ := dw_bdS h
            refine dw_cVv C0 Z dw_hA (dw_lt dw_kc142 (by decide)) (dw_cz10 dw_kc142) rfl (As := [.int x28, .int (6 : Int32), .int (0 : Int32)]) (rest := []) (kX10_setPipe l Γ hj μ29 x28 (6 : Int32) (0 : Int32) hc34) (dw_gV tw_lX10_51 tw_vX10_setPipe tw_eX10_setPipe tw_iX10 tw_kX10_setPipe) dw_hX10_setPipe ⟨Nat.le_of_ble_eq_true rfl, Nat.le_of_ble_eq_true rfl⟩ ⟨Nat.zero_le _, Nat.zero_le _⟩ hl.1 (Nat.le_of_ble_eq_true rfl) rfl dX10_hour_104 (fun H locs Z => ?_)
            obtain ⟨x36, ex36⟩ := dw_eg (x28 + (1 : Int32))
            have h := dw_nmS ex36 h
            refine lv_iinc (v := x36) (lv' := [(2, .int x36), (0, .ref (dw_ad Γ 142)), (1, .int x26)]) hx hb dX10_hour_107 hl (k := 2) rfl (by rw [ex36]; rfl) (by decide) rfl (fun ls hl => ?_)
            refine lv_goto (tgt := 66) hx hb dX10_hour_110 (by decide) ?_
            obtain rfl := dw_s1 h
            exact ih66 x36 μ35 H locs ls Z (lv_sub hl [1, 2, 0] rfl) hq66
          · have h := dw_ifF c33 h
            refine lv_aload_n hx hb dX10_hour_91 rfl (lv_at hl 0 rfl) ?_
            refine lv_iload_n hx hb dX10_hour_92 rfl (lv_at hl 2 rfl) ?_
            refine lv_bipush (v := (6 : Int32)) hx hb dX10_hour_93 (by decide) ?_
            obtain ⟨r38, hc37, h⟩ := dw_bdS h
            refine dw_cVi C0 Z dw_hA (dw_lt dw_kc142 (by decide)) (dw_cz10 dw_kc142) rfl (As := [.int x28, .int (6 : Int32)]) (rest := [.int (6 : Int32), .int x28, .ref (dw_ad Γ 142)]) (kX10_pipeOf l Γ hj μ29 x28 (6 : Int32) hc37) (dw_gV tw_lX10_55 tw_vX10_pipeOf tw_eX10_pipeOf tw_iX10 tw_kX10_pipeOf) dw_hX10_pipeOf ⟨Nat.le_of_ble_eq_true rfl, Nat.le_of_ble_eq_true rfl⟩ ⟨Nat.zero_le _, Nat.zero_le _⟩ hl.1 (Nat.le_of_ble_eq_true rfl) rfl dX10_hour_95 (fun H locs Z => ?_)
            refine lv_iconst (v := (1 : Int32)) hx hb dX10_hour_98 (by decide) ?_
            refine lv_isub hx hb dX10_hour_99 ?_
            refine lv_goto (tgt := 104) hx hb dX10_hour_100 (by decide) ?_
            obtain ⟨μ40, hc39, h⟩ := dw_bdS h
            refine dw_cVv C0 Z dw_hA (dw_lt dw_kc142 (by decide)) (dw_cz10 dw_kc142) rfl (As := [.int x28, .int (6 : Int32), .int (r38 - (1 : Int32))]) (rest := []) (kX10_setPipe l Γ hj μ29 x28 (6 : Int32) (r38 - (1 : Int32)) hc39) (dw_gV tw_lX10_51 tw_vX10_setPipe tw_eX10_setPipe tw_iX10 tw_kX10_setPipe) dw_hX10_setPipe ⟨Nat.le_of_ble_eq_true rfl, Nat.le_of_ble_eq_true rfl⟩ ⟨Nat.zero_le _, Nat.zero_le _⟩ hl.1 (Nat.le_of_ble_eq_true rfl) rfl dX10_hour_104 (fun H locs Z => ?_)
            obtain ⟨x41, ex41⟩ := dw_eg (x28 + (1 : Int32))
            have h := dw_nmS ex41 h
            refine lv_iinc (v := x41) (lv' := [(2, .int x41), (0, .ref (dw_ad Γ 142)), (1, .int x26)]) hx hb dX10_hour_107 hl (k := 2) rfl (by rw [ex41]; rfl) (by decide) rfl (fun ls hl => ?_)
            refine lv_goto (tgt := 66) hx hb dX10_hour_110 (by decide) ?_
            obtain rfl := dw_s1 h
            exact ih66 x41 μ40 H locs ls Z (lv_sub hl [1, 2, 0] rfl) hq66
    exact L66 1000 (0 : Int32) μ27 H locs ls Z (lv_sub hl [1, 2, 0] rfl) h
  have L12 : ∀ (n12 : Nat) (x5 : Int32) (x6 : Int32) (μ7 : dw_M) (H : Heap) (locs : List Loc) (ls : Array Slot), dw_Z Γ (dw_A Γ) s.heap μ7 H locs → lv_has ls 4 [(0, .ref (dw_ad Γ 142)), (1, .int x5), (2, .int x6)] → dw_bd (dw_wh (fun v => sX10_hour_12 v.1 v.2.1 v.2.2) n12 (x5, x6, μ7)) kc12 = some (r, ν) → W p l e (dw_rm 5 115) s m ([.ref (dw_ad Γ 142)] : List Value).toArray below meth c H locs 0 0 (MQ below (dw_Qi Γ r ν) ([.ref (dw_ad Γ 142)] : List Value).toArray s 0 0 (dw_A Γ)) (F0 m 12 ls []) := by
    clear h
    intro n12
    induction n12 with
    | zero =>
      intro x5 x6 μ7 H locs ls Z hl h
      exact (dw_wh0 h).elim
    | succ n12 ih12 =>
      intro x5 x6 μ7 H locs ls Z hl h
      obtain ⟨q12, hs, hq12⟩ := dw_whB h
      have h : sX10_hour_12 x5 x6 μ7 = some q12 := hs
      unfold sX10_hour_12 at h
      refine lv_iload_n hx hb dX10_hour_12 rfl (lv_at hl 2 rfl) ?_
      refine lv_bipush (v := (20 : Int32)) hx hb dX10_hour_13 (by decide) ?_
      refine lv_icmp_ge (tgt := 64) hx hb dX10_hour_15 (by decide) (fun c8 => ?_) (fun c8 => ?_)
      · have h := dw_ifT c8 h
        obtain rfl := dw_s1 h
        exact E12 x5 μ7 H locs ls Z (lv_sub hl [0, 1] rfl) hq12
      · have h := dw_ifF c8 h
        refine lv_iconst (v := (0 : Int32)) hx hb dX10_hour_18 (by decide) ?_
        refine lv_istore_n (lv' := [(3, .int (0 : Int32)), (0, .ref (dw_ad Γ 142)), (1, .int x5), (2, .int x6)]) hx hb dX10_hour_19 rfl hl (by decide) rfl (fun ls hl => ?_)
        obtain ⟨kc20, ekc20, h⟩ := dw_bdK h
        have E20 : ∀ (x23 : Int32) (μ24 : dw_M) (H : Heap) (locs : List Loc) (ls : Array Slot), dw_Z Γ (dw_A Γ) s.heap μ24 H locs → lv_has ls 4 [(0, .ref (dw_ad Γ 142)), (1, .int x23), (2, .int x6)] → kc20 (x23, μ24) = some q12 → W p l e (dw_rm 5 115) s m ([.ref (dw_ad Γ 142)] : List Value).toArray below meth c H locs 0 0 (MQ below (dw_Qi Γ r ν) ([.ref (dw_ad Γ 142)] : List Value).toArray s 0 0 (dw_A Γ)) (F0 m 58 ls []) := by
          intro x23 μ24 H locs ls Z hl h
          rw [ekc20] at h
          dsimp only at h
          obtain ⟨x25, ex25⟩ := dw_eg (x6 + (1 : Int32))
          have h := dw_nmS ex25 h
          refine lv_iinc (v := x25) (lv' := [(2, .int x25), (0, .ref (dw_ad Γ 142)), (1, .int x23)]) hx hb dX10_hour_58 hl (k := 2) rfl (by rw [ex25]; rfl) (by decide) rfl (fun ls hl => ?_)
          refine lv_goto (tgt := 12) hx hb dX10_hour_61 (by decide) ?_
          obtain rfl := dw_s1 h
          exact ih12 x23 x25 μ24 H locs ls Z (lv_sub hl [1, 2, 0] rfl) hq12
        have L20 : ∀ (n20 : Nat) (x9 : Int32) (x10 : Int32) (μ11 : dw_M) (H : Heap) (locs : List Loc) (ls : Array Slot), dw_Z Γ (dw_A Γ) s.heap μ11 H locs → lv_has ls 4 [(0, .ref (dw_ad Γ 142)), (1, .int x9), (2, .int x6), (3, .int x10)] → dw_bd (dw_wh (fun v => sX10_hour_20 x6 v.1 v.2.1 v.2.2) n20 (x9, x10, μ11)) kc20 = some q12 → W p l e (dw_rm 5 115) s m ([.ref (dw_ad Γ 142)] : List Value).toArray below meth c H locs 0 0 (MQ below (dw_Qi Γ r ν) ([.ref (dw_ad Γ 142)] : List Value).toArray s 0 0 (dw_A Γ)) (F0 m 20 ls []) := by
          clear h
          intro n20
          induction n20 with
          | zero =>
            intro x9 x10 μ11 H locs ls Z hl h
            exact (dw_wh0 h).elim
          | succ n20 ih20 =>
            intro x9 x10 μ11 H locs ls Z hl h
            obtain ⟨q20, hs, hq20⟩ := dw_whB h
            have h : sX10_hour_20 x6 x9 x10 μ11 = some q20 := hs
            unfold sX10_hour_20 at h
            refine lv_iload_n hx hb dX10_hour_20 rfl (lv_at hl 3 rfl) ?_
            refine lv_aload_n hx hb dX10_hour_21 rfl (lv_at hl 0 rfl) ?_
            refine dw_g10_0 (t := 143) C0 Z dw_kc142 tw_fX10_7 rfl dX10_hour_22 ?_
            refine lv_bipush (v := (13 : Int32)) hx hb dX10_hour_25 (by decide) ?_
            refine dw_ald C0 Z dw_kc143 dw_lc143 (by decide) dX10_hour_27 ?_
            refine lv_icmp_ge (tgt := 58) hx hb dX10_hour_28 (by decide) (fun c12 => ?_) (fun c12 => ?_)
            · have h := dw_ifT c12 h
              obtain rfl := dw_s1 h
              exact E20 x9 μ11 H locs ls Z (lv_sub hl [0, 1, 2] rfl) hq20
            · have h := dw_ifF c12 h
              refine lv_iload_n hx hb dX10_hour_31 rfl (lv_at hl 1 rfl) ?_
              refine lv_aload_n hx hb dX10_hour_32 rfl (lv_at hl 0 rfl) ?_
              refine lv_iload_n hx hb dX10_hour_33 rfl (lv_at hl 3 rfl) ?_
              obtain ⟨r14, hc13, h⟩ := dw_bdS h
              refine dw_cVi C0 Z dw_hA (dw_lt dw_kc142 (by decide)) (dw_cz10 dw_kc142) rfl (As := [.int x10]) (rest := [.int x9]) (kX10_rank l Γ hj μ11 x10 hc13) (dw_gV tw_lX10_71 tw_vX10_rank tw_eX10_rank tw_iX10 tw_kX10_rank) dw_hX10_rank ⟨Nat.le_of_ble_eq_true rfl, Nat.le_of_ble_eq_true rfl⟩ ⟨Nat.zero_le _, Nat.zero_le _⟩ hl.1 (Nat.le_of_ble_eq_true rfl) rfl dX10_hour_34 (fun H locs Z => ?_)
              refine lv_iload_n hx hb dX10_hour_37 rfl (lv_at hl 2 rfl) ?_
              refine lv_icmp_ne (tgt := 49) hx hb dX10_hour_38 (by decide) (fun c15 => ?_) (fun c15 => ?_)
              · have h := dw_ifF c15 h
                refine lv_iconst (v := (0 : Int32)) hx hb dX10_hour_49 (by decide) ?_
                refine lv_iadd hx hb dX10_hour_50 ?_
                refine lv_topi (fun x16 ex16 => ?_)
                have h := dw_nmS ex16 h
                refine lv_istore_n (lv' := [(1, .int x16), (0, .ref (dw_ad Γ 142)), (2, .int x6), (3, .int x10)]) hx hb dX10_hour_51 rfl hl (by decide) rfl (fun ls hl => ?_)
                obtain ⟨x17, ex17⟩ := dw_eg (x10 + (1 : Int32))
                have h := dw_nmS ex17 h
                refine lv_iinc (v := x17) (lv' := [(3, .int x17), (1, .int x16), (0, .ref (dw_ad Γ 142)), (2, .int x6)]) hx hb dX10_hour_52 hl (k := 3) rfl (by rw [ex17]; rfl) (by decide) rfl (fun ls hl => ?_)
                refine lv_goto (tgt := 20) hx hb dX10_hour_55 (by decide) ?_
                obtain rfl := dw_s1 h
                exact ih20 x16 x17 μ11 H locs ls Z (lv_sub hl [2, 1, 3, 0] rfl) hq20
              · have h := dw_ifT c15 h
                refine lv_aload_n hx hb dX10_hour_41 rfl (lv_at hl 0 rfl) ?_
                refine lv_iload_n hx hb dX10_hour_42 rfl (lv_at hl 3 rfl) ?_
                obtain ⟨r19, μ20, hc18, h⟩ := dw_b2S h
                refine dw_cVi C0 Z dw_hA (dw_lt dw_kc142 (by decide)) (dw_cz10 dw_kc142) rfl (As := [.int x10]) (rest := [.int x9]) (kX10_pass l Γ hj μ11 x10 hc18) (dw_gV tw_lX10_98 tw_vX10_pass tw_eX10_pass tw_iX10 tw_kX10_pass) dw_hX10_pass ⟨Nat.le_of_ble_eq_true rfl, Nat.le_of_ble_eq_true rfl⟩ ⟨Nat.zero_le _, Nat.zero_le _⟩ hl.1 (Nat.le_of_ble_eq_true rfl) rfl dX10_hour_43 (fun H locs Z => ?_)
                refine lv_goto (tgt := 50) hx hb dX10_hour_46 (by decide) ?_
                refine lv_iadd hx hb dX10_hour_50 ?_
                refine lv_topi (fun x21 ex21 => ?_)
                have h := dw_nmS ex21 h
                refine lv_istore_n (lv' := [(1, .int x21), (0, .ref (dw_ad Γ 142)), (2, .int x6), (3, .int x10)]) hx hb dX10_hour_51 rfl hl (by decide) rfl (fun ls hl => ?_)
                obtain ⟨x22, ex22⟩ := dw_eg (x10 + (1 : Int32))
                have h := dw_nmS ex22 h
                refine lv_iinc (v := x22) (lv' := [(3, .int x22), (1, .int x21), (0, .ref (dw_ad Γ 142)), (2, .int x6)]) hx hb dX10_hour_52 hl (k := 3) rfl (by rw [ex22]; rfl) (by decide) rfl (fun ls hl => ?_)
                refine lv_goto (tgt := 20) hx hb dX10_hour_55 (by decide) ?_
                obtain rfl := dw_s1 h
                exact ih20 x21 x22 μ20 H locs ls Z (lv_sub hl [2, 1, 3, 0] rfl) hq20
        exact L20 1000 x5 (0 : Int32) μ7 H locs ls Z (lv_sub hl [1, 2, 3, 0] rfl) h
  exact L12 1000 (0 : Int32) (0 : Int32) μ4 H locs ls Z (lv_sub hl [2, 1, 0] rfl) h

def sX10_hours_16 (a1 : Int32) (x2 : Int32) (x3 : Int32) (μ4 : dw_M) : Option ((Int32 × Int32 × dw_M) ⊕ ((Int32 × dw_M))) :=
  if a1 ≤ x3 then (
  some (.inr (x2, μ4)))
  else (
  dw_b2 (fX10_hour μ4) (fun r7 μ8 =>
  dw_nm (x2 + r7) (fun x9 =>
  dw_nm (x3 + (1 : Int32)) (fun x10 =>
  some (.inl (x9, x10, μ8))))))
def fX10_hours (μ : dw_M) (a1 : Int32) : Option (Int32 × dw_M) :=
  if (fX10_in a1 (1 : Int32) (50 : Int32)) = 0 then (
  some ((-1 : Int32), μ))
  else (
  dw_bd (dw_wh (fun v => sX10_hours_16 a1 v.1 v.2.1 v.2.2) 1000 ((0 : Int32), (0 : Int32), μ))
    (fun v => (fun x11 μ12 => some (x11, μ12)) v.1 v.2))
set_option maxHeartbeats 4000000 in
set_option maxRecDepth 100000 in
theorem kX10_hours (l : Launch) (Γ : dw_G) (hj : dw_inj Γ) (μ : dw_M) (a1 : Int32) {r : Int32} {ν : dw_M} (h : fX10_hours μ a1 = some (r, ν)) : Met l yX10_hours (dw_ws yX10_hours cX10_hours 4 (some .int)) (dw_rm 6 138) (dw_P Γ ([.ref (dw_ad Γ 142), .int a1] : List Value) μ) (dw_Qi Γ r ν) 0 0 (dw_A Γ) := by
  refine dw_met (own := RX10) rfl rfl (Nat.le_of_ble_eq_true rfl) hj ?_
  intro p e s m below meth c C0 hr hlk Z ls hl
  have hx := C0.1
  have hb := C0.2.1
  have hl : lv_has ls 4 [(0, .ref (dw_ad Γ 142)), (1, .int a1)] := hl
  suffices key : ∀ (H : Heap) (locs : List Loc), dw_Z Γ (dw_A Γ) s.heap μ H locs → W p l e (dw_rm 6 138) s m ([.ref (dw_ad Γ 142), .int a1] : List Value).toArray below meth c H locs 0 0 (MQ below (dw_Qi Γ r ν) ([.ref (dw_ad Γ 142), .int a1] : List Value).toArray s 0 0 (dw_A Γ)) (F0 m 0 ls []) from key _ _ Z
  clear Z
  intro H locs Z
  unfold fX10_hours at h
  refine lv_iload_n hx hb dX10_hours_0 rfl (lv_at hl 1 rfl) ?_
  refine lv_iconst (v := (1 : Int32)) hx hb dX10_hours_1 (by decide) ?_
  refine lv_bipush (v := (50 : Int32)) hx hb dX10_hours_2 (by decide) ?_
  refine dw_cSi C0 Z dw_hA (As := [.int a1, .int (1 : Int32), .int (50 : Int32)]) (rest := []) (kX10_in l Γ hj μ a1 (1 : Int32) (50 : Int32) rfl) (dw_gS tw_lX10_29 tw_sX10_in tw_iX10 tw_kX10_in) dw_hX10_in ⟨Nat.le_of_ble_eq_true rfl, Nat.le_of_ble_eq_true rfl⟩ ⟨Nat.zero_le _, Nat.zero_le _⟩ hl.1 (Nat.le_of_ble_eq_true rfl) rfl dX10_hours_4 (fun H locs Z => ?_)
  refine lv_if_ne (tgt := 12) hx hb dX10_hours_7 (by decide) (fun c1 => ?_) (fun c1 => ?_)
  · have h := dw_ifF c1 h
    refine lv_iconst (v := (0 : Int32)) hx hb dX10_hours_12 (by decide) ?_
    refine lv_istore_n (lv' := [(2, .int (0 : Int32)), (0, .ref (dw_ad Γ 142)), (1, .int a1)]) hx hb dX10_hours_13 rfl hl (by decide) rfl (fun ls hl => ?_)
    refine lv_iconst (v := (0 : Int32)) hx hb dX10_hours_14 (by decide) ?_
    refine lv_istore_n (lv' := [(3, .int (0 : Int32)), (2, .int (0 : Int32)), (0, .ref (dw_ad Γ 142)), (1, .int a1)]) hx hb dX10_hours_15 rfl hl (by decide) rfl (fun ls hl => ?_)
    obtain ⟨kc16, ekc16, h⟩ := dw_bdK h
    have E16 : ∀ (x11 : Int32) (μ12 : dw_M) (H : Heap) (locs : List Loc) (ls : Array Slot), dw_Z Γ (dw_A Γ) s.heap μ12 H locs → lv_has ls 4 [(2, .int x11)] → kc16 (x11, μ12) = some (r, ν) → W p l e (dw_rm 6 138) s m ([.ref (dw_ad Γ 142), .int a1] : List Value).toArray below meth c H locs 0 0 (MQ below (dw_Qi Γ r ν) ([.ref (dw_ad Γ 142), .int a1] : List Value).toArray s 0 0 (dw_A Γ)) (F0 m 34 ls []) := by
      intro x11 μ12 H locs ls Z hl h
      rw [ekc16] at h
      dsimp only at h
      refine lv_iload_n hx hb dX10_hours_34 rfl (lv_at hl 0 rfl) ?_
      obtain ⟨rfl, rfl⟩ := dw_s2 h
      exact dw_iret C0 Z hr hlk dX10_hours_35
    have L16 : ∀ (n16 : Nat) (x2 : Int32) (x3 : Int32) (μ4 : dw_M) (H : Heap) (locs : List Loc) (ls : Array Slot), dw_Z Γ (dw_A Γ) s.heap μ4 H locs → lv_has ls 4 [(0, .ref (dw_ad Γ 142)), (1, .int a1), (2, .int x2), (3, .int x3)] → dw_bd (dw_wh (fun v => sX10_hours_16 a1 v.1 v.2.1 v.2.2) n16 (x2, x3, μ4)) kc16 = some (r, ν) → W p l e (dw_rm 6 138) s m ([.ref (dw_ad Γ 142), .int a1] : List Value).toArray below meth c H locs 0 0 (MQ below (dw_Qi Γ r ν) ([.ref (dw_ad Γ 142), .int a1] : List Value).toArray s 0 0 (dw_A Γ)) (F0 m 16 ls []) := by
      clear h
      intro n16
      induction n16 with
      | zero =>
        intro x2 x3 μ4 H locs ls Z hl h
        exact (dw_wh0 h).elim
      | succ n16 ih16 =>
        intro x2 x3 μ4 H locs ls Z hl h
        obtain ⟨q16, hs, hq16⟩ := dw_whB h
        have h : sX10_hours_16 a1 x2 x3 μ4 = some q16 := hs
        unfold sX10_hours_16 at h
        refine lv_iload_n hx hb dX10_hours_16 rfl (lv_at hl 3 rfl) ?_
        refine lv_iload_n hx hb dX10_hours_17 rfl (lv_at hl 1 rfl) ?_
        refine lv_icmp_ge (tgt := 34) hx hb dX10_hours_18 (by decide) (fun c5 => ?_) (fun c5 => ?_)
        · have h := dw_ifT c5 h
          obtain rfl := dw_s1 h
          exact E16 x2 μ4 H locs ls Z (lv_sub hl [2] rfl) hq16
        · have h := dw_ifF c5 h
          refine lv_iload_n hx hb dX10_hours_21 rfl (lv_at hl 2 rfl) ?_
          refine lv_aload_n hx hb dX10_hours_22 rfl (lv_at hl 0 rfl) ?_
          obtain ⟨r7, μ8, hc6, h⟩ := dw_b2S h
          refine dw_cVi C0 Z dw_hA (dw_lt dw_kc142 (by decide)) (dw_cz10 dw_kc142) rfl (As := []) (rest := [.int x2]) (kX10_hour l Γ hj μ4 hc6) (dw_gV tw_lX10_101 tw_vX10_hour tw_eX10_hour tw_iX10 tw_kX10_hour) dw_hX10_hour ⟨Nat.le_of_ble_eq_true rfl, Nat.le_of_ble_eq_true rfl⟩ ⟨Nat.zero_le _, Nat.zero_le _⟩ hl.1 (Nat.le_of_ble_eq_true rfl) rfl dX10_hours_23 (fun H locs Z => ?_)
          refine lv_iadd hx hb dX10_hours_26 ?_
          refine lv_topi (fun x9 ex9 => ?_)
          have h := dw_nmS ex9 h
          refine lv_istore_n (lv' := [(2, .int x9), (0, .ref (dw_ad Γ 142)), (1, .int a1), (3, .int x3)]) hx hb dX10_hours_27 rfl hl (by decide) rfl (fun ls hl => ?_)
          obtain ⟨x10, ex10⟩ := dw_eg (x3 + (1 : Int32))
          have h := dw_nmS ex10 h
          refine lv_iinc (v := x10) (lv' := [(3, .int x10), (2, .int x9), (0, .ref (dw_ad Γ 142)), (1, .int a1)]) hx hb dX10_hours_28 hl (k := 3) rfl (by rw [ex10]; rfl) (by decide) rfl (fun ls hl => ?_)
          refine lv_goto (tgt := 16) hx hb dX10_hours_31 (by decide) ?_
          obtain rfl := dw_s1 h
          exact ih16 x9 x10 μ8 H locs ls Z (lv_sub hl [2, 3, 1, 0] rfl) hq16
    exact L16 1000 (0 : Int32) (0 : Int32) μ H locs ls Z (lv_sub hl [2, 3, 1, 0] rfl) h
  · have h := dw_ifT c1 h
    refine lv_iconst (v := (-1 : Int32)) hx hb dX10_hours_10 (by decide) ?_
    obtain ⟨rfl, rfl⟩ := dw_s2 h
    exact dw_iret C0 Z hr hlk dX10_hours_11

def sX10_isReached_18 (μ : dw_M) (a1 : Int32) (x2 : Int32) (x4 : Int32) (x5 : Int32) : Option ((Int32 × Int32) ⊕ ((Int32))) :=
  dw_bd (fX10_pipeOf μ x2 (11 : Int32)) (fun r7 =>
  if r7 ≤ x5 then (
  some (.inr x4))
  else (
  dw_bd (fX10_isLateral μ x2) (fun r10 =>
  if r10 = 0 then (
  some (.inr x4))
  else (
  dw_bd (fX10_rowOf μ a1) (fun r13 =>
  dw_bd (fX10_stepPlace μ x2 x5) (fun r15 =>
  dw_bd (fX10_rowOf μ r15) (fun r17 =>
  dw_nm (r13 - r17) (fun x18 =>
  dw_bd (fX10_columnOf μ a1) (fun r20 =>
  dw_bd (fX10_stepPlace μ x2 x5) (fun r22 =>
  dw_bd (fX10_columnOf μ r22) (fun r24 =>
  dw_nm (r20 - r24) (fun x25 =>
  if x4 = 0 then (
  dw_bd (fX10_soilOf μ a1 (3 : Int32)) (fun r29 =>
  if r29 < ((x18 * x18) + (x25 * x25)) then (
  dw_nm (x5 + (1 : Int32)) (fun x31 =>
  some (.inl ((0 : Int32), x31))))
  else (
  dw_nm (x5 + (1 : Int32)) (fun x32 =>
  some (.inl ((1 : Int32), x32))))))
  else (
  dw_nm (x5 + (1 : Int32)) (fun x27 =>
  some (.inl ((1 : Int32), x27))))))))))))))))
def sX10_isReached_4 (μ : dw_M) (a1 : Int32) (x1 : Int32) (x2 : Int32) : Option ((Int32 × Int32) ⊕ ((Int32))) :=
  if (μ.1 143 (13 : Int32).toNatClampNeg) ≤ x2 then (
  some (.inr x1))
  else (
  dw_bd (dw_wh (fun v => sX10_isReached_18 μ a1 x2 v.1 v.2) 1000 (x1, (0 : Int32)))
    (fun x33 => dw_nm (x2 + (1 : Int32)) (fun x34 =>
  some (.inl (x33, x34)))))
def fX10_isReached (μ : dw_M) (a1 : Int32) : Option (Int32) :=
  dw_bd (dw_wh (fun v => sX10_isReached_4 μ a1 v.1 v.2) 1000 ((0 : Int32), (0 : Int32)))
    (fun x35 => dw_gd (dw_bo x35) (
  some x35))
set_option maxHeartbeats 4000000 in
set_option maxRecDepth 100000 in
theorem kX10_isReached (l : Launch) (Γ : dw_G) (hj : dw_inj Γ) (μ : dw_M) (a1 : Int32) {r : Int32} (h : fX10_isReached μ a1 = some r) : Met l yX10_isReached (dw_ws yX10_isReached cX10_isReached 7 (some .boolean)) (dw_rm 3 67) (dw_P Γ ([.ref (dw_ad Γ 142), .int a1] : List Value) μ) (dw_Qi Γ r μ) 0 0 (dw_A Γ) := by
  refine dw_met (own := RX10) rfl rfl (Nat.le_of_ble_eq_true rfl) hj ?_
  intro p e s m below meth c C0 hr hlk Z ls hl
  have hx := C0.1
  have hb := C0.2.1
  have hl : lv_has ls 7 [(0, .ref (dw_ad Γ 142)), (1, .int a1)] := hl
  suffices key : ∀ (H : Heap) (locs : List Loc), dw_Z Γ (dw_A Γ) s.heap μ H locs → W p l e (dw_rm 3 67) s m ([.ref (dw_ad Γ 142), .int a1] : List Value).toArray below meth c H locs 0 0 (MQ below (dw_Qi Γ r μ) ([.ref (dw_ad Γ 142), .int a1] : List Value).toArray s 0 0 (dw_A Γ)) (F0 m 0 ls []) from key _ _ Z
  clear Z
  intro H locs Z
  unfold fX10_isReached at h
  refine lv_iconst (v := (0 : Int32)) hx hb dX10_isReached_0 (by decide) ?_
  refine lv_istore_n (lv' := [(2, .int (0 : Int32)), (0, .ref (dw_ad Γ 142)), (1, .int a1)]) hx hb dX10_isReached_1 rfl hl (by decide) rfl (fun ls hl => ?_)
  refine lv_iconst (v := (0 : Int32)) hx hb dX10_isReached_2 (by decide) ?_
  refine lv_istore_n (lv' := [(3, .int (0 : Int32)), (2, .int (0 : Int32)), (0, .ref (dw_ad Γ 142)), (1, .int a1)]) hx hb dX10_isReached_3 rfl hl (by decide) rfl (fun ls hl => ?_)
  obtain ⟨kc4, ekc4, h⟩ := dw_bdK h
  have E4 : ∀ (x35 : Int32) (H : Heap) (locs : List Loc) (ls : Array Slot), dw_Z Γ (dw_A Γ) s.heap μ H locs → lv_has ls 7 [(2, .int x35)] → kc4 x35 = some r → W p l e (dw_rm 3 67) s m ([.ref (dw_ad Γ 142), .int a1] : List Value).toArray below meth c H locs 0 0 (MQ below (dw_Qi Γ r μ) ([.ref (dw_ad Γ 142), .int a1] : List Value).toArray s 0 0 (dw_A Γ)) (F0 m 118 ls []) := by
    intro x35 H locs ls Z hl h
    rw [ekc4] at h
    dsimp only at h
    refine lv_iload_n hx hb dX10_isReached_118 rfl (lv_at hl 0 rfl) ?_
    obtain ⟨g36, h⟩ := dw_gdS h
    obtain rfl := dw_s1 h
    exact dw_zret C0 Z hr hlk (dw_boN g36) dX10_isReached_119
  have L4 : ∀ (n4 : Nat) (x1 : Int32) (x2 : Int32) (H : Heap) (locs : List Loc) (ls : Array Slot), dw_Z Γ (dw_A Γ) s.heap μ H locs → lv_has ls 7 [(0, .ref (dw_ad Γ 142)), (1, .int a1), (2, .int x1), (3, .int x2)] → dw_bd (dw_wh (fun v => sX10_isReached_4 μ a1 v.1 v.2) n4 (x1, x2)) kc4 = some r → W p l e (dw_rm 3 67) s m ([.ref (dw_ad Γ 142), .int a1] : List Value).toArray below meth c H locs 0 0 (MQ below (dw_Qi Γ r μ) ([.ref (dw_ad Γ 142), .int a1] : List Value).toArray s 0 0 (dw_A Γ)) (F0 m 4 ls []) := by
    clear h
    intro n4
    induction n4 with
    | zero =>
      intro x1 x2 H locs ls Z hl h
      exact (dw_wh0 h).elim
    | succ n4 ih4 =>
      intro x1 x2 H locs ls Z hl h
      obtain ⟨q4, hs, hq4⟩ := dw_whB h
      have h : sX10_isReached_4 μ a1 x1 x2 = some q4 := hs
      unfold sX10_isReached_4 at h
      refine lv_iload_n hx hb dX10_isReached_4 rfl (lv_at hl 3 rfl) ?_
      refine lv_aload_n hx hb dX10_isReached_5 rfl (lv_at hl 0 rfl) ?_
      refine dw_g10_0 (t := 143) C0 Z dw_kc142 tw_fX10_7 rfl dX10_isReached_6 ?_
      refine lv_bipush (v := (13 : Int32)) hx hb dX10_isReached_9 (by decide) ?_
      refine dw_ald C0 Z dw_kc143 dw_lc143 (by decide) dX10_isReached_11 ?_
      refine lv_icmp_ge (tgt := 118) hx hb dX10_isReached_12 (by decide) (fun c3 => ?_) (fun c3 => ?_)
      · have h := dw_ifT c3 h
        obtain rfl := dw_s1 h
        exact E4 x1 H locs ls Z (lv_sub hl [2] rfl) hq4
      · have h := dw_ifF c3 h
        refine lv_iconst (v := (0 : Int32)) hx hb dX10_isReached_15 (by decide) ?_
        refine lv_istore (lv' := [(4, .int (0 : Int32)), (0, .ref (dw_ad Γ 142)), (1, .int a1), (2, .int x1), (3, .int x2)]) hx hb dX10_isReached_16 hl (by decide) rfl (fun ls hl => ?_)
        obtain ⟨kc18, ekc18, h⟩ := dw_bdK h
        have E18 : ∀ (x33 : Int32) (H : Heap) (locs : List Loc) (ls : Array Slot), dw_Z Γ (dw_A Γ) s.heap μ H locs → lv_has ls 7 [(0, .ref (dw_ad Γ 142)), (1, .int a1), (2, .int x33), (3, .int x2)] → kc18 x33 = some q4 → W p l e (dw_rm 3 67) s m ([.ref (dw_ad Γ 142), .int a1] : List Value).toArray below meth c H locs 0 0 (MQ below (dw_Qi Γ r μ) ([.ref (dw_ad Γ 142), .int a1] : List Value).toArray s 0 0 (dw_A Γ)) (F0 m 112 ls []) := by
          intro x33 H locs ls Z hl h
          rw [ekc18] at h
          dsimp only at h
          obtain ⟨x34, ex34⟩ := dw_eg (x2 + (1 : Int32))
          have h := dw_nmS ex34 h
          refine lv_iinc (v := x34) (lv' := [(3, .int x34), (0, .ref (dw_ad Γ 142)), (1, .int a1), (2, .int x33)]) hx hb dX10_isReached_112 hl (k := 3) rfl (by rw [ex34]; rfl) (by decide) rfl (fun ls hl => ?_)
          refine lv_goto (tgt := 4) hx hb dX10_isReached_115 (by decide) ?_
          obtain rfl := dw_s1 h
          exact ih4 x33 x34 H locs ls Z (lv_sub hl [1, 2, 3, 0] rfl) hq4
        have L18 : ∀ (n18 : Nat) (x4 : Int32) (x5 : Int32) (H : Heap) (locs : List Loc) (ls : Array Slot), dw_Z Γ (dw_A Γ) s.heap μ H locs → lv_has ls 7 [(0, .ref (dw_ad Γ 142)), (1, .int a1), (2, .int x4), (3, .int x2), (4, .int x5)] → dw_bd (dw_wh (fun v => sX10_isReached_18 μ a1 x2 v.1 v.2) n18 (x4, x5)) kc18 = some q4 → W p l e (dw_rm 3 67) s m ([.ref (dw_ad Γ 142), .int a1] : List Value).toArray below meth c H locs 0 0 (MQ below (dw_Qi Γ r μ) ([.ref (dw_ad Γ 142), .int a1] : List Value).toArray s 0 0 (dw_A Γ)) (F0 m 18 ls []) := by
          clear h
          intro n18
          induction n18 with
          | zero =>
            intro x4 x5 H locs ls Z hl h
            exact (dw_wh0 h).elim
          | succ n18 ih18 =>
            intro x4 x5 H locs ls Z hl h
            obtain ⟨q18, hs, hq18⟩ := dw_whB h
            have h : sX10_isReached_18 μ a1 x2 x4 x5 = some q18 := hs
            unfold sX10_isReached_18 at h
            refine lv_iload hx hb dX10_isReached_18 (lv_at hl 4 rfl) ?_
            refine lv_aload_n hx hb dX10_isReached_20 rfl (lv_at hl 0 rfl) ?_
            refine lv_iload_n hx hb dX10_isReached_21 rfl (lv_at hl 3 rfl) ?_
            refine lv_bipush (v := (11 : Int32)) hx hb dX10_isReached_22 (by decide) ?_
            obtain ⟨r7, hc6, h⟩ := dw_bdS h
            refine dw_cVi C0 Z dw_hA (dw_lt dw_kc142 (by decide)) (dw_cz10 dw_kc142) rfl (As := [.int x2, .int (11 : Int32)]) (rest := [.int x5]) (kX10_pipeOf l Γ hj μ x2 (11 : Int32) hc6) (dw_gV tw_lX10_55 tw_vX10_pipeOf tw_eX10_pipeOf tw_iX10 tw_kX10_pipeOf) dw_hX10_pipeOf ⟨Nat.le_of_ble_eq_true rfl, Nat.le_of_ble_eq_true rfl⟩ ⟨Nat.zero_le _, Nat.zero_le _⟩ hl.1 (Nat.le_of_ble_eq_true rfl) rfl dX10_isReached_24 (fun H locs Z => ?_)
            refine lv_icmp_ge (tgt := 112) hx hb dX10_isReached_27 (by decide) (fun c8 => ?_) (fun c8 => ?_)
            · have h := dw_ifT c8 h
              obtain rfl := dw_s1 h
              exact E18 x4 H locs ls Z (lv_sub hl [0, 1, 2, 3] rfl) hq18
            · have h := dw_ifF c8 h
              refine lv_aload_n hx hb dX10_isReached_30 rfl (lv_at hl 0 rfl) ?_
              refine lv_iload_n hx hb dX10_isReached_31 rfl (lv_at hl 3 rfl) ?_
              obtain ⟨r10, hc9, h⟩ := dw_bdS h
              refine dw_cVi C0 Z dw_hA (dw_lt dw_kc142 (by decide)) (dw_cz10 dw_kc142) rfl (As := [.int x2]) (rest := []) (kX10_isLateral l Γ hj μ x2 hc9) (dw_gV tw_lX10_89 tw_vX10_isLateral tw_eX10_isLateral tw_iX10 tw_kX10_isLateral) dw_hX10_isLateral ⟨Nat.le_of_ble_eq_true rfl, Nat.le_of_ble_eq_true rfl⟩ ⟨Nat.zero_le _, Nat.zero_le _⟩ hl.1 (Nat.le_of_ble_eq_true rfl) rfl dX10_isReached_32 (fun H locs Z => ?_)
              refine lv_if_eq (tgt := 112) hx hb dX10_isReached_35 (by decide) (fun c11 => ?_) (fun c11 => ?_)
              · have h := dw_ifT c11 h
                obtain rfl := dw_s1 h
                exact E18 x4 H locs ls Z (lv_sub hl [0, 1, 2, 3] rfl) hq18
              · have h := dw_ifF c11 h
                refine lv_aload_n hx hb dX10_isReached_38 rfl (lv_at hl 0 rfl) ?_
                refine lv_iload_n hx hb dX10_isReached_39 rfl (lv_at hl 1 rfl) ?_
                obtain ⟨r13, hc12, h⟩ := dw_bdS h
                refine dw_cVi C0 Z dw_hA (dw_lt dw_kc142 (by decide)) (dw_cz10 dw_kc142) rfl (As := [.int a1]) (rest := []) (kX10_rowOf l Γ hj μ a1 hc12) (dw_gV tw_lX10_37 tw_vX10_rowOf tw_eX10_rowOf tw_iX10 tw_kX10_rowOf) dw_hX10_rowOf ⟨Nat.le_of_ble_eq_true rfl, Nat.le_of_ble_eq_true rfl⟩ ⟨Nat.zero_le _, Nat.zero_le _⟩ hl.1 (Nat.le_of_ble_eq_true rfl) rfl dX10_isReached_40 (fun H locs Z => ?_)
                refine lv_aload_n hx hb dX10_isReached_43 rfl (lv_at hl 0 rfl) ?_
                refine lv_aload_n hx hb dX10_isReached_44 rfl (lv_at hl 0 rfl) ?_
                refine lv_iload_n hx hb dX10_isReached_45 rfl (lv_at hl 3 rfl) ?_
                refine lv_iload hx hb dX10_isReached_46 (lv_at hl 4 rfl) ?_
                obtain ⟨r15, hc14, h⟩ := dw_bdS h
                refine dw_cVi C0 Z dw_hA (dw_lt dw_kc142 (by decide)) (dw_cz10 dw_kc142) rfl (As := [.int x2, .int x5]) (rest := [.ref (dw_ad Γ 142), .int r13]) (kX10_stepPlace l Γ hj μ x2 x5 hc14) (dw_gV tw_lX10_59 tw_vX10_stepPlace tw_eX10_stepPlace tw_iX10 tw_kX10_stepPlace) dw_hX10_stepPlace ⟨Nat.le_of_ble_eq_true rfl, Nat.le_of_ble_eq_true rfl⟩ ⟨Nat.zero_le _, Nat.zero_le _⟩ hl.1 (Nat.le_of_ble_eq_true rfl) rfl dX10_isReached_48 (fun H locs Z => ?_)
                obtain ⟨r17, hc16, h⟩ := dw_bdS h
                refine dw_cVi C0 Z dw_hA (dw_lt dw_kc142 (by decide)) (dw_cz10 dw_kc142) rfl (As := [.int r15]) (rest := [.int r13]) (kX10_rowOf l Γ hj μ r15 hc16) (dw_gV tw_lX10_37 tw_vX10_rowOf tw_eX10_rowOf tw_iX10 tw_kX10_rowOf) dw_hX10_rowOf ⟨Nat.le_of_ble_eq_true rfl, Nat.le_of_ble_eq_true rfl⟩ ⟨Nat.zero_le _, Nat.zero_le _⟩ hl.1 (Nat.le_of_ble_eq_true rfl) rfl dX10_isReached_51 (fun H locs Z => ?_)
                refine lv_isub hx hb dX10_isReached_54 ?_
                refine lv_topi (fun x18 ex18 => ?_)
                have h := dw_nmS ex18 h
                refine lv_istore (lv' := [(5, .int x18), (0, .ref (dw_ad Γ 142)), (1, .int a1), (2, .int x4), (3, .int x2), (4, .int x5)]) hx hb dX10_isReached_55 hl (by decide) rfl (fun ls hl => ?_)
                refine lv_aload_n hx hb dX10_isReached_57 rfl (lv_at hl 1 rfl) ?_
                refine lv_iload_n hx hb dX10_isReached_58 rfl (lv_at hl 2 rfl) ?_
                obtain ⟨r20, hc19, h⟩ := dw_bdS h
                refine dw_cVi C0 Z dw_hA (dw_lt dw_kc142 (by decide)) (dw_cz10 dw_kc142) rfl (As := [.int a1]) (rest := []) (kX10_columnOf l Γ hj μ a1 hc19) (dw_gV tw_lX10_41 tw_vX10_columnOf tw_eX10_columnOf tw_iX10 tw_kX10_columnOf) dw_hX10_columnOf ⟨Nat.le_of_ble_eq_true rfl, Nat.le_of_ble_eq_true rfl⟩ ⟨Nat.zero_le _, Nat.zero_le _⟩ hl.1 (Nat.le_of_ble_eq_true rfl) rfl dX10_isReached_59 (fun H locs Z => ?_)
                refine lv_aload_n hx hb dX10_isReached_62 rfl (lv_at hl 1 rfl) ?_
                refine lv_aload_n hx hb dX10_isReached_63 rfl (lv_at hl 1 rfl) ?_
                refine lv_iload_n hx hb dX10_isReached_64 rfl (lv_at hl 4 rfl) ?_
                refine lv_iload hx hb dX10_isReached_65 (lv_at hl 5 rfl) ?_
                obtain ⟨r22, hc21, h⟩ := dw_bdS h
                refine dw_cVi C0 Z dw_hA (dw_lt dw_kc142 (by decide)) (dw_cz10 dw_kc142) rfl (As := [.int x2, .int x5]) (rest := [.ref (dw_ad Γ 142), .int r20]) (kX10_stepPlace l Γ hj μ x2 x5 hc21) (dw_gV tw_lX10_59 tw_vX10_stepPlace tw_eX10_stepPlace tw_iX10 tw_kX10_stepPlace) dw_hX10_stepPlace ⟨Nat.le_of_ble_eq_true rfl, Nat.le_of_ble_eq_true rfl⟩ ⟨Nat.zero_le _, Nat.zero_le _⟩ hl.1 (Nat.le_of_ble_eq_true rfl) rfl dX10_isReached_67 (fun H locs Z => ?_)
                obtain ⟨r24, hc23, h⟩ := dw_bdS h
                refine dw_cVi C0 Z dw_hA (dw_lt dw_kc142 (by decide)) (dw_cz10 dw_kc142) rfl (As := [.int r22]) (rest := [.int r20]) (kX10_columnOf l Γ hj μ r22 hc23) (dw_gV tw_lX10_41 tw_vX10_columnOf tw_eX10_columnOf tw_iX10 tw_kX10_columnOf) dw_hX10_columnOf ⟨Nat.le_of_ble_eq_true rfl, Nat.le_of_ble_eq_true rfl⟩ ⟨Nat.zero_le _, Nat.zero_le _⟩ hl.1 (Nat.le_of_ble_eq_true rfl) rfl dX10_isReached_70 (fun H locs Z => ?_)
                refine lv_isub hx hb dX10_isReached_73 ?_
                refine lv_topi (fun x25 ex25 => ?_)
                have h := dw_nmS ex25 h
                refine lv_istore (lv' := [(6, .int x25), (5, .int x18), (0, .ref (dw_ad Γ 142)), (1, .int a1), (2, .int x4), (3, .int x2), (4, .int x5)]) hx hb dX10_isReached_74 hl (by decide) rfl (fun ls hl => ?_)
                refine lv_iload_n hx hb dX10_isReached_76 rfl (lv_at hl 4 rfl) ?_
                refine lv_if_ne (tgt := 100) hx hb dX10_isReached_77 (by decide) (fun c26 => ?_) (fun c26 => ?_)
                · have h := dw_ifF c26 h
                  refine lv_iconst (v := (1 : Int32)) hx hb dX10_isReached_100 (by decide) ?_
                  refine lv_goto (tgt := 105) hx hb dX10_isReached_101 (by decide) ?_
                  refine lv_istore_n (lv' := [(2, .int (1 : Int32)), (6, .int x25), (5, .int x18), (0, .ref (dw_ad Γ 142)), (1, .int a1), (3, .int x2), (4, .int x5)]) hx hb dX10_isReached_105 rfl hl (by decide) rfl (fun ls hl => ?_)
                  obtain ⟨x27, ex27⟩ := dw_eg (x5 + (1 : Int32))
                  have h := dw_nmS ex27 h
                  refine lv_iinc (v := x27) (lv' := [(4, .int x27), (2, .int (1 : Int32)), (6, .int x25), (5, .int x18), (0, .ref (dw_ad Γ 142)), (1, .int a1), (3, .int x2)]) hx hb dX10_isReached_106 hl (k := 6) rfl (by rw [ex27]; rfl) (by decide) rfl (fun ls hl => ?_)
                  refine lv_goto (tgt := 18) hx hb dX10_isReached_109 (by decide) ?_
                  obtain rfl := dw_s1 h
                  exact ih18 (1 : Int32) x27 H locs ls Z (lv_sub hl [4, 5, 1, 6, 0] rfl) hq18
                · have h := dw_ifT c26 h
                  refine lv_iload hx hb dX10_isReached_80 (lv_at hl 1 rfl) ?_
                  refine lv_iload hx hb dX10_isReached_82 (lv_at hl 1 rfl) ?_
                  refine lv_imul hx hb dX10_isReached_84 ?_
                  refine lv_iload hx hb dX10_isReached_85 (lv_at hl 0 rfl) ?_
                  refine lv_iload hx hb dX10_isReached_87 (lv_at hl 0 rfl) ?_
                  refine lv_imul hx hb dX10_isReached_89 ?_
                  refine lv_iadd hx hb dX10_isReached_90 ?_
                  refine lv_aload_n hx hb dX10_isReached_91 rfl (lv_at hl 2 rfl) ?_
                  refine lv_iload_n hx hb dX10_isReached_92 rfl (lv_at hl 3 rfl) ?_
                  refine lv_iconst (v := (3 : Int32)) hx hb dX10_isReached_93 (by decide) ?_
                  obtain ⟨r29, hc28, h⟩ := dw_bdS h
                  refine dw_cVi C0 Z dw_hA (dw_lt dw_kc142 (by decide)) (dw_cz10 dw_kc142) rfl (As := [.int a1, .int (3 : Int32)]) (rest := [.int ((x18 * x18) + (x25 * x25))]) (kX10_soilOf l Γ hj μ a1 (3 : Int32) hc28) (dw_gV tw_lX10_86 tw_vX10_soilOf tw_eX10_soilOf tw_iX10 tw_kX10_soilOf) dw_hX10_soilOf ⟨Nat.le_of_ble_eq_true rfl, Nat.le_of_ble_eq_true rfl⟩ ⟨Nat.zero_le _, Nat.zero_le _⟩ hl.1 (Nat.le_of_ble_eq_true rfl) rfl dX10_isReached_94 (fun H locs Z => ?_)
                  refine lv_icmp_gt (tgt := 104) hx hb dX10_isReached_97 (by decide) (fun c30 => ?_) (fun c30 => ?_)
                  · have h := dw_ifT c30 h
                    refine lv_iconst (v := (0 : Int32)) hx hb dX10_isReached_104 (by decide) ?_
                    refine lv_istore_n (lv' := [(2, .int (0 : Int32)), (6, .int x25), (5, .int x18), (0, .ref (dw_ad Γ 142)), (1, .int a1), (3, .int x2), (4, .int x5)]) hx hb dX10_isReached_105 rfl hl (by decide) rfl (fun ls hl => ?_)
                    obtain ⟨x31, ex31⟩ := dw_eg (x5 + (1 : Int32))
                    have h := dw_nmS ex31 h
                    refine lv_iinc (v := x31) (lv' := [(4, .int x31), (2, .int (0 : Int32)), (6, .int x25), (5, .int x18), (0, .ref (dw_ad Γ 142)), (1, .int a1), (3, .int x2)]) hx hb dX10_isReached_106 hl (k := 6) rfl (by rw [ex31]; rfl) (by decide) rfl (fun ls hl => ?_)
                    refine lv_goto (tgt := 18) hx hb dX10_isReached_109 (by decide) ?_
                    obtain rfl := dw_s1 h
                    exact ih18 (0 : Int32) x31 H locs ls Z (lv_sub hl [4, 5, 1, 6, 0] rfl) hq18
                  · have h := dw_ifF c30 h
                    refine lv_iconst (v := (1 : Int32)) hx hb dX10_isReached_100 (by decide) ?_
                    refine lv_goto (tgt := 105) hx hb dX10_isReached_101 (by decide) ?_
                    refine lv_istore_n (lv' := [(2, .int (1 : Int32)), (6, .int x25), (5, .int x18), (0, .ref (dw_ad Γ 142)), (1, .int a1), (3, .int x2), (4, .int x5)]) hx hb dX10_isReached_105 rfl hl (by decide) rfl (fun ls hl => ?_)
                    obtain ⟨x32, ex32⟩ := dw_eg (x5 + (1 : Int32))
                    have h := dw_nmS ex32 h
                    refine lv_iinc (v := x32) (lv' := [(4, .int x32), (2, .int (1 : Int32)), (6, .int x25), (5, .int x18), (0, .ref (dw_ad Γ 142)), (1, .int a1), (3, .int x2)]) hx hb dX10_isReached_106 hl (k := 6) rfl (by rw [ex32]; rfl) (by decide) rfl (fun ls hl => ?_)
                    refine lv_goto (tgt := 18) hx hb dX10_isReached_109 (by decide) ?_
                    obtain rfl := dw_s1 h
                    exact ih18 (1 : Int32) x32 H locs ls Z (lv_sub hl [4, 5, 1, 6, 0] rfl) hq18
        exact L18 1000 x1 (0 : Int32) H locs ls Z (lv_sub hl [1, 2, 3, 4, 0] rfl) h
  exact L4 1000 (0 : Int32) (0 : Int32) H locs ls Z (lv_sub hl [2, 3, 1, 0] rfl) h

def fX10_at (μ : dw_M) (a1 : Int32) (a2 : Int32) : Option (Int32) :=
  if (fX10_isPlace μ a1) = 0 then (
  some (-1 : Int32))
  else (
  if a2 = (0 : Int32) then (
  dw_gd (dw_ok ((20 : Int32) + a1) 800) (
  some (μ.1 143 ((20 : Int32) + a1).toNatClampNeg)))
  else (
  if a2 = (1 : Int32) then (
  dw_gd (dw_ok ((60 : Int32) + a1) 800) (
  some (μ.1 143 ((60 : Int32) + a1).toNatClampNeg)))
  else (
  if a2 = (2 : Int32) then (
  dw_gd (dw_ok ((100 : Int32) + a1) 800) (
  some (μ.1 143 ((100 : Int32) + a1).toNatClampNeg)))
  else (
  if a2 = (3 : Int32) then (
  dw_gd (dw_ok ((140 : Int32) + a1) 800) (
  some (μ.1 143 ((140 : Int32) + a1).toNatClampNeg)))
  else (
  if a2 = (4 : Int32) then (
  dw_gd (dw_ok ((180 : Int32) + a1) 800) (
  some (μ.1 143 ((180 : Int32) + a1).toNatClampNeg)))
  else (
  if a2 = (5 : Int32) then (
  dw_bd (fX10_isReached μ a1) (fun r14 =>
  if r14 = 0 then (
  some (0 : Int32))
  else (
  some (1 : Int32))))
  else (
  some (-1 : Int32))))))))
set_option maxHeartbeats 4000000 in
set_option maxRecDepth 100000 in
theorem kX10_at (l : Launch) (Γ : dw_G) (hj : dw_inj Γ) (μ : dw_M) (a1 : Int32) (a2 : Int32) {r : Int32} (h : fX10_at μ a1 a2 = some r) : Met l yX10_at (dw_ws yX10_at cX10_at 3 (some .int)) (dw_rm 4 93) (dw_P Γ ([.ref (dw_ad Γ 142), .int a1, .int a2] : List Value) μ) (dw_Qi Γ r μ) 0 0 (dw_A Γ) := by
  refine dw_met (own := RX10) rfl rfl (Nat.le_of_ble_eq_true rfl) hj ?_
  intro p e s m below meth c C0 hr hlk Z ls hl
  have hx := C0.1
  have hb := C0.2.1
  have hl : lv_has ls 3 [(0, .ref (dw_ad Γ 142)), (1, .int a1), (2, .int a2)] := hl
  suffices key : ∀ (H : Heap) (locs : List Loc), dw_Z Γ (dw_A Γ) s.heap μ H locs → W p l e (dw_rm 4 93) s m ([.ref (dw_ad Γ 142), .int a1, .int a2] : List Value).toArray below meth c H locs 0 0 (MQ below (dw_Qi Γ r μ) ([.ref (dw_ad Γ 142), .int a1, .int a2] : List Value).toArray s 0 0 (dw_A Γ)) (F0 m 0 ls []) from key _ _ Z
  clear Z
  intro H locs Z
  unfold fX10_at at h
  refine lv_aload_n hx hb dX10_at_0 rfl (lv_at hl 0 rfl) ?_
  refine lv_iload_n hx hb dX10_at_1 rfl (lv_at hl 1 rfl) ?_
  refine dw_cVi C0 Z dw_hA (dw_lt dw_kc142 (by decide)) (dw_cz10 dw_kc142) rfl (As := [.int a1]) (rest := []) (kX10_isPlace l Γ hj μ a1 rfl) (dw_gV tw_lX10_33 tw_vX10_isPlace tw_eX10_isPlace tw_iX10 tw_kX10_isPlace) dw_hX10_isPlace ⟨Nat.le_of_ble_eq_true rfl, Nat.le_of_ble_eq_true rfl⟩ ⟨Nat.zero_le _, Nat.zero_le _⟩ hl.1 (Nat.le_of_ble_eq_true rfl) rfl dX10_at_2 (fun H locs Z => ?_)
  refine lv_if_ne (tgt := 10) hx hb dX10_at_5 (by decide) (fun c1 => ?_) (fun c1 => ?_)
  · have h := dw_ifF c1 h
    refine lv_iload_n hx hb dX10_at_10 rfl (lv_at hl 2 rfl) ?_
    by_cases c2 : a2 = (0 : Int32)
    · have h := dw_ifT c2 h
      refine lv_tableIn (off := 37) (tgt := 48) hx hb dX10_at_11 (by rw [c2]; decide) (by rw [c2]; decide) (by rw [c2]; rfl) (by decide) ?_
      refine lv_aload_n hx hb dX10_at_48 rfl (lv_at hl 0 rfl) ?_
      refine dw_g10_0 (t := 143) C0 Z dw_kc142 tw_fX10_7 rfl dX10_at_49 ?_
      refine lv_bipush (v := (20 : Int32)) hx hb dX10_at_52 (by decide) ?_
      refine lv_iload_n hx hb dX10_at_54 rfl (lv_at hl 1 rfl) ?_
      refine lv_iadd hx hb dX10_at_55 ?_
      obtain ⟨g3, h⟩ := dw_gdS h
      refine dw_ald C0 Z dw_kc143 dw_lc143 g3 dX10_at_56 ?_
      obtain rfl := dw_s1 h
      exact dw_iret C0 Z hr hlk dX10_at_57
    have h := dw_ifF c2 h
    by_cases c4 : a2 = (1 : Int32)
    · have h := dw_ifT c4 h
      refine lv_tableIn (off := 47) (tgt := 58) hx hb dX10_at_11 (by rw [c4]; decide) (by rw [c4]; decide) (by rw [c4]; rfl) (by decide) ?_
      refine lv_aload_n hx hb dX10_at_58 rfl (lv_at hl 0 rfl) ?_
      refine dw_g10_0 (t := 143) C0 Z dw_kc142 tw_fX10_7 rfl dX10_at_59 ?_
      refine lv_bipush (v := (60 : Int32)) hx hb dX10_at_62 (by decide) ?_
      refine lv_iload_n hx hb dX10_at_64 rfl (lv_at hl 1 rfl) ?_
      refine lv_iadd hx hb dX10_at_65 ?_
      obtain ⟨g5, h⟩ := dw_gdS h
      refine dw_ald C0 Z dw_kc143 dw_lc143 g5 dX10_at_66 ?_
      obtain rfl := dw_s1 h
      exact dw_iret C0 Z hr hlk dX10_at_67
    have h := dw_ifF c4 h
    by_cases c6 : a2 = (2 : Int32)
    · have h := dw_ifT c6 h
      refine lv_tableIn (off := 57) (tgt := 68) hx hb dX10_at_11 (by rw [c6]; decide) (by rw [c6]; decide) (by rw [c6]; rfl) (by decide) ?_
      refine lv_aload_n hx hb dX10_at_68 rfl (lv_at hl 0 rfl) ?_
      refine dw_g10_0 (t := 143) C0 Z dw_kc142 tw_fX10_7 rfl dX10_at_69 ?_
      refine lv_bipush (v := (100 : Int32)) hx hb dX10_at_72 (by decide) ?_
      refine lv_iload_n hx hb dX10_at_74 rfl (lv_at hl 1 rfl) ?_
      refine lv_iadd hx hb dX10_at_75 ?_
      obtain ⟨g7, h⟩ := dw_gdS h
      refine dw_ald C0 Z dw_kc143 dw_lc143 g7 dX10_at_76 ?_
      obtain rfl := dw_s1 h
      exact dw_iret C0 Z hr hlk dX10_at_77
    have h := dw_ifF c6 h
    by_cases c8 : a2 = (3 : Int32)
    · have h := dw_ifT c8 h
      refine lv_tableIn (off := 67) (tgt := 78) hx hb dX10_at_11 (by rw [c8]; decide) (by rw [c8]; decide) (by rw [c8]; rfl) (by decide) ?_
      refine lv_aload_n hx hb dX10_at_78 rfl (lv_at hl 0 rfl) ?_
      refine dw_g10_0 (t := 143) C0 Z dw_kc142 tw_fX10_7 rfl dX10_at_79 ?_
      refine lv_sipush (v := (140 : Int32)) hx hb dX10_at_82 (by decide) ?_
      refine lv_iload_n hx hb dX10_at_85 rfl (lv_at hl 1 rfl) ?_
      refine lv_iadd hx hb dX10_at_86 ?_
      obtain ⟨g9, h⟩ := dw_gdS h
      refine dw_ald C0 Z dw_kc143 dw_lc143 g9 dX10_at_87 ?_
      obtain rfl := dw_s1 h
      exact dw_iret C0 Z hr hlk dX10_at_88
    have h := dw_ifF c8 h
    by_cases c10 : a2 = (4 : Int32)
    · have h := dw_ifT c10 h
      refine lv_tableIn (off := 78) (tgt := 89) hx hb dX10_at_11 (by rw [c10]; decide) (by rw [c10]; decide) (by rw [c10]; rfl) (by decide) ?_
      refine lv_aload_n hx hb dX10_at_89 rfl (lv_at hl 0 rfl) ?_
      refine dw_g10_0 (t := 143) C0 Z dw_kc142 tw_fX10_7 rfl dX10_at_90 ?_
      refine lv_sipush (v := (180 : Int32)) hx hb dX10_at_93 (by decide) ?_
      refine lv_iload_n hx hb dX10_at_96 rfl (lv_at hl 1 rfl) ?_
      refine lv_iadd hx hb dX10_at_97 ?_
      obtain ⟨g11, h⟩ := dw_gdS h
      refine dw_ald C0 Z dw_kc143 dw_lc143 g11 dX10_at_98 ?_
      obtain rfl := dw_s1 h
      exact dw_iret C0 Z hr hlk dX10_at_99
    have h := dw_ifF c10 h
    by_cases c12 : a2 = (5 : Int32)
    · have h := dw_ifT c12 h
      refine lv_tableIn (off := 89) (tgt := 100) hx hb dX10_at_11 (by rw [c12]; decide) (by rw [c12]; decide) (by rw [c12]; rfl) (by decide) ?_
      refine lv_aload_n hx hb dX10_at_100 rfl (lv_at hl 0 rfl) ?_
      refine lv_iload_n hx hb dX10_at_101 rfl (lv_at hl 1 rfl) ?_
      obtain ⟨r14, hc13, h⟩ := dw_bdS h
      refine dw_cVi C0 Z dw_hA (dw_lt dw_kc142 (by decide)) (dw_cz10 dw_kc142) rfl (As := [.int a1]) (rest := []) (kX10_isReached l Γ hj μ a1 hc13) (dw_gV tw_lX10_104 tw_vX10_isReached tw_eX10_isReached tw_iX10 tw_kX10_isReached) dw_hX10_isReached ⟨Nat.le_of_ble_eq_true rfl, Nat.le_of_ble_eq_true rfl⟩ ⟨Nat.zero_le _, Nat.zero_le _⟩ hl.1 (Nat.le_of_ble_eq_true rfl) rfl dX10_at_102 (fun H locs Z => ?_)
      refine lv_if_eq (tgt := 112) hx hb dX10_at_105 (by decide) (fun c15 => ?_) (fun c15 => ?_)
      · have h := dw_ifT c15 h
        refine lv_iconst (v := (0 : Int32)) hx hb dX10_at_112 (by decide) ?_
        obtain rfl := dw_s1 h
        exact dw_iret C0 Z hr hlk dX10_at_113
      · have h := dw_ifF c15 h
        refine lv_iconst (v := (1 : Int32)) hx hb dX10_at_108 (by decide) ?_
        refine lv_goto (tgt := 113) hx hb dX10_at_109 (by decide) ?_
        obtain rfl := dw_s1 h
        exact dw_iret C0 Z hr hlk dX10_at_113
    have h := dw_ifF c12 h
    have tc2 := dw_ti c2 (k := 0) (by decide)
    have tc4 := dw_ti c4 (k := 1) (by decide)
    have tc6 := dw_ti c6 (k := 2) (by decide)
    have tc8 := dw_ti c8 (k := 3) (by decide)
    have tc10 := dw_ti c10 (k := 4) (by decide)
    have tc12 := dw_ti c12 (k := 5) (by decide)
    refine lv_tableOut (tgt := 114) hx hb dX10_at_11 (by omega) (by decide) ?_
    refine lv_iconst (v := (-1 : Int32)) hx hb dX10_at_114 (by decide) ?_
    obtain rfl := dw_s1 h
    exact dw_iret C0 Z hr hlk dX10_at_115
  · have h := dw_ifT c1 h
    refine lv_iconst (v := (-1 : Int32)) hx hb dX10_at_8 (by decide) ?_
    obtain rfl := dw_s1 h
    exact dw_iret C0 Z hr hlk dX10_at_9

def sX10_sum_4 (μ : dw_M) (a1 : Int32) (x1 : Int32) (x2 : Int32) : Option ((Int32 × Int32) ⊕ ((Int32))) :=
  if (fX10_places μ) ≤ x2 then (
  some (.inr x1))
  else (
  dw_gd (dw_ok (a1 + x2) 800) (
  dw_nm (x1 + (μ.1 143 (a1 + x2).toNatClampNeg)) (fun x5 =>
  dw_nm (x2 + (1 : Int32)) (fun x6 =>
  some (.inl (x5, x6))))))
def fX10_sum (μ : dw_M) (a1 : Int32) : Option (Int32) :=
  dw_bd (dw_wh (fun v => sX10_sum_4 μ a1 v.1 v.2) 1000 ((0 : Int32), (0 : Int32)))
    (fun x7 => some x7)
set_option maxHeartbeats 4000000 in
set_option maxRecDepth 100000 in
theorem kX10_sum (l : Launch) (Γ : dw_G) (hj : dw_inj Γ) (μ : dw_M) (a1 : Int32) {r : Int32} (h : fX10_sum μ a1 = some r) : Met l yX10_sum (dw_ws yX10_sum cX10_sum 4 (some .int)) (dw_rm 1 20) (dw_P Γ ([.ref (dw_ad Γ 142), .int a1] : List Value) μ) (dw_Qi Γ r μ) 0 0 (dw_A Γ) := by
  refine dw_met (own := RX10) rfl rfl (Nat.le_of_ble_eq_true rfl) hj ?_
  intro p e s m below meth c C0 hr hlk Z ls hl
  have hx := C0.1
  have hb := C0.2.1
  have hl : lv_has ls 4 [(0, .ref (dw_ad Γ 142)), (1, .int a1)] := hl
  suffices key : ∀ (H : Heap) (locs : List Loc), dw_Z Γ (dw_A Γ) s.heap μ H locs → W p l e (dw_rm 1 20) s m ([.ref (dw_ad Γ 142), .int a1] : List Value).toArray below meth c H locs 0 0 (MQ below (dw_Qi Γ r μ) ([.ref (dw_ad Γ 142), .int a1] : List Value).toArray s 0 0 (dw_A Γ)) (F0 m 0 ls []) from key _ _ Z
  clear Z
  intro H locs Z
  unfold fX10_sum at h
  refine lv_iconst (v := (0 : Int32)) hx hb dX10_sum_0 (by decide) ?_
  refine lv_istore_n (lv' := [(2, .int (0 : Int32)), (0, .ref (dw_ad Γ 142)), (1, .int a1)]) hx hb dX10_sum_1 rfl hl (by decide) rfl (fun ls hl => ?_)
  refine lv_iconst (v := (0 : Int32)) hx hb dX10_sum_2 (by decide) ?_
  refine lv_istore_n (lv' := [(3, .int (0 : Int32)), (2, .int (0 : Int32)), (0, .ref (dw_ad Γ 142)), (1, .int a1)]) hx hb dX10_sum_3 rfl hl (by decide) rfl (fun ls hl => ?_)
  obtain ⟨kc4, ekc4, h⟩ := dw_bdK h
  have E4 : ∀ (x7 : Int32) (H : Heap) (locs : List Loc) (ls : Array Slot), dw_Z Γ (dw_A Γ) s.heap μ H locs → lv_has ls 4 [(2, .int x7)] → kc4 x7 = some r → W p l e (dw_rm 1 20) s m ([.ref (dw_ad Γ 142), .int a1] : List Value).toArray below meth c H locs 0 0 (MQ below (dw_Qi Γ r μ) ([.ref (dw_ad Γ 142), .int a1] : List Value).toArray s 0 0 (dw_A Γ)) (F0 m 29 ls []) := by
    intro x7 H locs ls Z hl h
    rw [ekc4] at h
    dsimp only at h
    refine lv_iload_n hx hb dX10_sum_29 rfl (lv_at hl 0 rfl) ?_
    obtain rfl := dw_s1 h
    exact dw_iret C0 Z hr hlk dX10_sum_30
  have L4 : ∀ (n4 : Nat) (x1 : Int32) (x2 : Int32) (H : Heap) (locs : List Loc) (ls : Array Slot), dw_Z Γ (dw_A Γ) s.heap μ H locs → lv_has ls 4 [(0, .ref (dw_ad Γ 142)), (1, .int a1), (2, .int x1), (3, .int x2)] → dw_bd (dw_wh (fun v => sX10_sum_4 μ a1 v.1 v.2) n4 (x1, x2)) kc4 = some r → W p l e (dw_rm 1 20) s m ([.ref (dw_ad Γ 142), .int a1] : List Value).toArray below meth c H locs 0 0 (MQ below (dw_Qi Γ r μ) ([.ref (dw_ad Γ 142), .int a1] : List Value).toArray s 0 0 (dw_A Γ)) (F0 m 4 ls []) := by
    clear h
    intro n4
    induction n4 with
    | zero =>
      intro x1 x2 H locs ls Z hl h
      exact (dw_wh0 h).elim
    | succ n4 ih4 =>
      intro x1 x2 H locs ls Z hl h
      obtain ⟨q4, hs, hq4⟩ := dw_whB h
      have h : sX10_sum_4 μ a1 x1 x2 = some q4 := hs
      unfold sX10_sum_4 at h
      refine lv_iload_n hx hb dX10_sum_4 rfl (lv_at hl 3 rfl) ?_
      refine lv_aload_n hx hb dX10_sum_5 rfl (lv_at hl 0 rfl) ?_
      refine dw_cVi C0 Z dw_hA (dw_lt dw_kc142 (by decide)) (dw_cz10 dw_kc142) rfl (As := []) (rest := [.int x2]) (kX10_places l Γ hj μ rfl) (dw_gV tw_lX10_25 tw_vX10_places tw_eX10_places tw_iX10 tw_kX10_places) dw_hX10_places ⟨Nat.le_of_ble_eq_true rfl, Nat.le_of_ble_eq_true rfl⟩ ⟨Nat.zero_le _, Nat.zero_le _⟩ hl.1 (Nat.le_of_ble_eq_true rfl) rfl dX10_sum_6 (fun H locs Z => ?_)
      refine lv_icmp_ge (tgt := 29) hx hb dX10_sum_9 (by decide) (fun c3 => ?_) (fun c3 => ?_)
      · have h := dw_ifT c3 h
        obtain rfl := dw_s1 h
        exact E4 x1 H locs ls Z (lv_sub hl [2] rfl) hq4
      · have h := dw_ifF c3 h
        refine lv_iload_n hx hb dX10_sum_12 rfl (lv_at hl 2 rfl) ?_
        refine lv_aload_n hx hb dX10_sum_13 rfl (lv_at hl 0 rfl) ?_
        refine dw_g10_0 (t := 143) C0 Z dw_kc142 tw_fX10_7 rfl dX10_sum_14 ?_
        refine lv_iload_n hx hb dX10_sum_17 rfl (lv_at hl 1 rfl) ?_
        refine lv_iload_n hx hb dX10_sum_18 rfl (lv_at hl 3 rfl) ?_
        refine lv_iadd hx hb dX10_sum_19 ?_
        obtain ⟨g4, h⟩ := dw_gdS h
        refine dw_ald C0 Z dw_kc143 dw_lc143 g4 dX10_sum_20 ?_
        refine lv_iadd hx hb dX10_sum_21 ?_
        refine lv_topi (fun x5 ex5 => ?_)
        have h := dw_nmS ex5 h
        refine lv_istore_n (lv' := [(2, .int x5), (0, .ref (dw_ad Γ 142)), (1, .int a1), (3, .int x2)]) hx hb dX10_sum_22 rfl hl (by decide) rfl (fun ls hl => ?_)
        obtain ⟨x6, ex6⟩ := dw_eg (x2 + (1 : Int32))
        have h := dw_nmS ex6 h
        refine lv_iinc (v := x6) (lv' := [(3, .int x6), (2, .int x5), (0, .ref (dw_ad Γ 142)), (1, .int a1)]) hx hb dX10_sum_23 hl (k := 3) rfl (by rw [ex6]; rfl) (by decide) rfl (fun ls hl => ?_)
        refine lv_goto (tgt := 4) hx hb dX10_sum_26 (by decide) ?_
        obtain rfl := dw_s1 h
        exact ih4 x5 x6 H locs ls Z (lv_sub hl [2, 3, 1, 0] rfl) hq4
  exact L4 1000 (0 : Int32) (0 : Int32) H locs ls Z (lv_sub hl [2, 3, 1, 0] rfl) h

def sX10_sumOfPipes_4 (μ : dw_M) (a1 : Int32) (x1 : Int32) (x2 : Int32) : Option ((Int32 × Int32) ⊕ ((Int32))) :=
  if (μ.1 143 (13 : Int32).toNatClampNeg) ≤ x2 then (
  some (.inr x1))
  else (
  dw_bd (fX10_pipeOf μ x2 a1) (fun r5 =>
  dw_nm (x1 + r5) (fun x6 =>
  dw_nm (x2 + (1 : Int32)) (fun x7 =>
  some (.inl (x6, x7))))))
def fX10_sumOfPipes (μ : dw_M) (a1 : Int32) : Option (Int32) :=
  dw_bd (dw_wh (fun v => sX10_sumOfPipes_4 μ a1 v.1 v.2) 1000 ((0 : Int32), (0 : Int32)))
    (fun x8 => some x8)
set_option maxHeartbeats 4000000 in
set_option maxRecDepth 100000 in
theorem kX10_sumOfPipes (l : Launch) (Γ : dw_G) (hj : dw_inj Γ) (μ : dw_M) (a1 : Int32) {r : Int32} (h : fX10_sumOfPipes μ a1 = some r) : Met l yX10_sumOfPipes (dw_ws yX10_sumOfPipes cX10_sumOfPipes 4 (some .int)) (dw_rm 1 22) (dw_P Γ ([.ref (dw_ad Γ 142), .int a1] : List Value) μ) (dw_Qi Γ r μ) 0 0 (dw_A Γ) := by
  refine dw_met (own := RX10) rfl rfl (Nat.le_of_ble_eq_true rfl) hj ?_
  intro p e s m below meth c C0 hr hlk Z ls hl
  have hx := C0.1
  have hb := C0.2.1
  have hl : lv_has ls 4 [(0, .ref (dw_ad Γ 142)), (1, .int a1)] := hl
  suffices key : ∀ (H : Heap) (locs : List Loc), dw_Z Γ (dw_A Γ) s.heap μ H locs → W p l e (dw_rm 1 22) s m ([.ref (dw_ad Γ 142), .int a1] : List Value).toArray below meth c H locs 0 0 (MQ below (dw_Qi Γ r μ) ([.ref (dw_ad Γ 142), .int a1] : List Value).toArray s 0 0 (dw_A Γ)) (F0 m 0 ls []) from key _ _ Z
  clear Z
  intro H locs Z
  unfold fX10_sumOfPipes at h
  refine lv_iconst (v := (0 : Int32)) hx hb dX10_sumOfPipes_0 (by decide) ?_
  refine lv_istore_n (lv' := [(2, .int (0 : Int32)), (0, .ref (dw_ad Γ 142)), (1, .int a1)]) hx hb dX10_sumOfPipes_1 rfl hl (by decide) rfl (fun ls hl => ?_)
  refine lv_iconst (v := (0 : Int32)) hx hb dX10_sumOfPipes_2 (by decide) ?_
  refine lv_istore_n (lv' := [(3, .int (0 : Int32)), (2, .int (0 : Int32)), (0, .ref (dw_ad Γ 142)), (1, .int a1)]) hx hb dX10_sumOfPipes_3 rfl hl (by decide) rfl (fun ls hl => ?_)
  obtain ⟨kc4, ekc4, h⟩ := dw_bdK h
  have E4 : ∀ (x8 : Int32) (H : Heap) (locs : List Loc) (ls : Array Slot), dw_Z Γ (dw_A Γ) s.heap μ H locs → lv_has ls 4 [(2, .int x8)] → kc4 x8 = some r → W p l e (dw_rm 1 22) s m ([.ref (dw_ad Γ 142), .int a1] : List Value).toArray below meth c H locs 0 0 (MQ below (dw_Qi Γ r μ) ([.ref (dw_ad Γ 142), .int a1] : List Value).toArray s 0 0 (dw_A Γ)) (F0 m 30 ls []) := by
    intro x8 H locs ls Z hl h
    rw [ekc4] at h
    dsimp only at h
    refine lv_iload_n hx hb dX10_sumOfPipes_30 rfl (lv_at hl 0 rfl) ?_
    obtain rfl := dw_s1 h
    exact dw_iret C0 Z hr hlk dX10_sumOfPipes_31
  have L4 : ∀ (n4 : Nat) (x1 : Int32) (x2 : Int32) (H : Heap) (locs : List Loc) (ls : Array Slot), dw_Z Γ (dw_A Γ) s.heap μ H locs → lv_has ls 4 [(0, .ref (dw_ad Γ 142)), (1, .int a1), (2, .int x1), (3, .int x2)] → dw_bd (dw_wh (fun v => sX10_sumOfPipes_4 μ a1 v.1 v.2) n4 (x1, x2)) kc4 = some r → W p l e (dw_rm 1 22) s m ([.ref (dw_ad Γ 142), .int a1] : List Value).toArray below meth c H locs 0 0 (MQ below (dw_Qi Γ r μ) ([.ref (dw_ad Γ 142), .int a1] : List Value).toArray s 0 0 (dw_A Γ)) (F0 m 4 ls []) := by
    clear h
    intro n4
    induction n4 with
    | zero =>
      intro x1 x2 H locs ls Z hl h
      exact (dw_wh0 h).elim
    | succ n4 ih4 =>
      intro x1 x2 H locs ls Z hl h
      obtain ⟨q4, hs, hq4⟩ := dw_whB h
      have h : sX10_sumOfPipes_4 μ a1 x1 x2 = some q4 := hs
      unfold sX10_sumOfPipes_4 at h
      refine lv_iload_n hx hb dX10_sumOfPipes_4 rfl (lv_at hl 3 rfl) ?_
      refine lv_aload_n hx hb dX10_sumOfPipes_5 rfl (lv_at hl 0 rfl) ?_
      refine dw_g10_0 (t := 143) C0 Z dw_kc142 tw_fX10_7 rfl dX10_sumOfPipes_6 ?_
      refine lv_bipush (v := (13 : Int32)) hx hb dX10_sumOfPipes_9 (by decide) ?_
      refine dw_ald C0 Z dw_kc143 dw_lc143 (by decide) dX10_sumOfPipes_11 ?_
      refine lv_icmp_ge (tgt := 30) hx hb dX10_sumOfPipes_12 (by decide) (fun c3 => ?_) (fun c3 => ?_)
      · have h := dw_ifT c3 h
        obtain rfl := dw_s1 h
        exact E4 x1 H locs ls Z (lv_sub hl [2] rfl) hq4
      · have h := dw_ifF c3 h
        refine lv_iload_n hx hb dX10_sumOfPipes_15 rfl (lv_at hl 2 rfl) ?_
        refine lv_aload_n hx hb dX10_sumOfPipes_16 rfl (lv_at hl 0 rfl) ?_
        refine lv_iload_n hx hb dX10_sumOfPipes_17 rfl (lv_at hl 3 rfl) ?_
        refine lv_iload_n hx hb dX10_sumOfPipes_18 rfl (lv_at hl 1 rfl) ?_
        obtain ⟨r5, hc4, h⟩ := dw_bdS h
        refine dw_cVi C0 Z dw_hA (dw_lt dw_kc142 (by decide)) (dw_cz10 dw_kc142) rfl (As := [.int x2, .int a1]) (rest := [.int x1]) (kX10_pipeOf l Γ hj μ x2 a1 hc4) (dw_gV tw_lX10_55 tw_vX10_pipeOf tw_eX10_pipeOf tw_iX10 tw_kX10_pipeOf) dw_hX10_pipeOf ⟨Nat.le_of_ble_eq_true rfl, Nat.le_of_ble_eq_true rfl⟩ ⟨Nat.zero_le _, Nat.zero_le _⟩ hl.1 (Nat.le_of_ble_eq_true rfl) rfl dX10_sumOfPipes_19 (fun H locs Z => ?_)
        refine lv_iadd hx hb dX10_sumOfPipes_22 ?_
        refine lv_topi (fun x6 ex6 => ?_)
        have h := dw_nmS ex6 h
        refine lv_istore_n (lv' := [(2, .int x6), (0, .ref (dw_ad Γ 142)), (1, .int a1), (3, .int x2)]) hx hb dX10_sumOfPipes_23 rfl hl (by decide) rfl (fun ls hl => ?_)
        obtain ⟨x7, ex7⟩ := dw_eg (x2 + (1 : Int32))
        have h := dw_nmS ex7 h
        refine lv_iinc (v := x7) (lv' := [(3, .int x7), (2, .int x6), (0, .ref (dw_ad Γ 142)), (1, .int a1)]) hx hb dX10_sumOfPipes_24 hl (k := 3) rfl (by rw [ex7]; rfl) (by decide) rfl (fun ls hl => ?_)
        refine lv_goto (tgt := 4) hx hb dX10_sumOfPipes_27 (by decide) ?_
        obtain rfl := dw_s1 h
        exact ih4 x6 x7 H locs ls Z (lv_sub hl [2, 3, 1, 0] rfl) hq4
  exact L4 1000 (0 : Int32) (0 : Int32) H locs ls Z (lv_sub hl [2, 3, 1, 0] rfl) h

def fX10_all (μ : dw_M) (a1 : Int32) : Option (Int32) :=
  if a1 = (0 : Int32) then (
  dw_bd (fX10_sum μ (100 : Int32)) (fun r3 =>
  some r3))
  else (
  if a1 = (1 : Int32) then (
  dw_bd (fX10_sum μ (140 : Int32)) (fun r6 =>
  some r6))
  else (
  if a1 = (2 : Int32) then (
  dw_bd (fX10_sumOfPipes μ (9 : Int32)) (fun r9 =>
  some r9))
  else (
  if a1 = (3 : Int32) then (
  dw_gd (dw_ok (((9 : Int32) + a1) - (3 : Int32)) 800) (
  some (μ.1 143 (((9 : Int32) + a1) - (3 : Int32)).toNatClampNeg)))
  else (
  if a1 = (4 : Int32) then (
  dw_gd (dw_ok (((9 : Int32) + a1) - (3 : Int32)) 800) (
  some (μ.1 143 (((9 : Int32) + a1) - (3 : Int32)).toNatClampNeg)))
  else (
  if a1 = (5 : Int32) then (
  dw_gd (dw_ok (((9 : Int32) + a1) - (3 : Int32)) 800) (
  some (μ.1 143 (((9 : Int32) + a1) - (3 : Int32)).toNatClampNeg)))
  else (
  if a1 = (6 : Int32) then (
  dw_gd (dw_ok (((9 : Int32) + a1) - (3 : Int32)) 800) (
  some (μ.1 143 (((9 : Int32) + a1) - (3 : Int32)).toNatClampNeg)))
  else (
  if a1 = (7 : Int32) then (
  some (μ.1 143 (8 : Int32).toNatClampNeg))
  else (
  some (-1 : Int32)))))))))
set_option maxHeartbeats 4000000 in
set_option maxRecDepth 100000 in
theorem kX10_all (l : Launch) (Γ : dw_G) (hj : dw_inj Γ) (μ : dw_M) (a1 : Int32) {r : Int32} (h : fX10_all μ a1 = some r) : Met l yX10_all (dw_ws yX10_all cX10_all 2 (some .int)) (dw_rm 2 45) (dw_P Γ ([.ref (dw_ad Γ 142), .int a1] : List Value) μ) (dw_Qi Γ r μ) 0 0 (dw_A Γ) := by
  refine dw_met (own := RX10) rfl rfl (Nat.le_of_ble_eq_true rfl) hj ?_
  intro p e s m below meth c C0 hr hlk Z ls hl
  have hx := C0.1
  have hb := C0.2.1
  have hl : lv_has ls 2 [(0, .ref (dw_ad Γ 142)), (1, .int a1)] := hl
  suffices key : ∀ (H : Heap) (locs : List Loc), dw_Z Γ (dw_A Γ) s.heap μ H locs → W p l e (dw_rm 2 45) s m ([.ref (dw_ad Γ 142), .int a1] : List Value).toArray below meth c H locs 0 0 (MQ below (dw_Qi Γ r μ) ([.ref (dw_ad Γ 142), .int a1] : List Value).toArray s 0 0 (dw_A Γ)) (F0 m 0 ls []) from key _ _ Z
  clear Z
  intro H locs Z
  unfold fX10_all at h
  refine lv_iload_n hx hb dX10_all_0 rfl (lv_at hl 1 rfl) ?_
  by_cases c1 : a1 = (0 : Int32)
  · have h := dw_ifT c1 h
    refine lv_tableIn (off := 47) (tgt := 48) hx hb dX10_all_1 (by rw [c1]; decide) (by rw [c1]; decide) (by rw [c1]; rfl) (by decide) ?_
    refine lv_aload_n hx hb dX10_all_48 rfl (lv_at hl 0 rfl) ?_
    refine lv_bipush (v := (100 : Int32)) hx hb dX10_all_49 (by decide) ?_
    obtain ⟨r3, hc2, h⟩ := dw_bdS h
    refine dw_cVi C0 Z dw_hA (dw_lt dw_kc142 (by decide)) (dw_cz10 dw_kc142) rfl (As := [.int (100 : Int32)]) (rest := []) (kX10_sum l Γ hj μ (100 : Int32) hc2) (dw_gV tw_lX10_107 tw_vX10_sum tw_eX10_sum tw_iX10 tw_kX10_sum) dw_hX10_sum ⟨Nat.le_of_ble_eq_true rfl, Nat.le_of_ble_eq_true rfl⟩ ⟨Nat.zero_le _, Nat.zero_le _⟩ hl.1 (Nat.le_of_ble_eq_true rfl) rfl dX10_all_51 (fun H locs Z => ?_)
    obtain rfl := dw_s1 h
    exact dw_iret C0 Z hr hlk dX10_all_54
  have h := dw_ifF c1 h
  by_cases c4 : a1 = (1 : Int32)
  · have h := dw_ifT c4 h
    refine lv_tableIn (off := 54) (tgt := 55) hx hb dX10_all_1 (by rw [c4]; decide) (by rw [c4]; decide) (by rw [c4]; rfl) (by decide) ?_
    refine lv_aload_n hx hb dX10_all_55 rfl (lv_at hl 0 rfl) ?_
    refine lv_sipush (v := (140 : Int32)) hx hb dX10_all_56 (by decide) ?_
    obtain ⟨r6, hc5, h⟩ := dw_bdS h
    refine dw_cVi C0 Z dw_hA (dw_lt dw_kc142 (by decide)) (dw_cz10 dw_kc142) rfl (As := [.int (140 : Int32)]) (rest := []) (kX10_sum l Γ hj μ (140 : Int32) hc5) (dw_gV tw_lX10_107 tw_vX10_sum tw_eX10_sum tw_iX10 tw_kX10_sum) dw_hX10_sum ⟨Nat.le_of_ble_eq_true rfl, Nat.le_of_ble_eq_true rfl⟩ ⟨Nat.zero_le _, Nat.zero_le _⟩ hl.1 (Nat.le_of_ble_eq_true rfl) rfl dX10_all_59 (fun H locs Z => ?_)
    obtain rfl := dw_s1 h
    exact dw_iret C0 Z hr hlk dX10_all_62
  have h := dw_ifF c4 h
  by_cases c7 : a1 = (2 : Int32)
  · have h := dw_ifT c7 h
    refine lv_tableIn (off := 62) (tgt := 63) hx hb dX10_all_1 (by rw [c7]; decide) (by rw [c7]; decide) (by rw [c7]; rfl) (by decide) ?_
    refine lv_aload_n hx hb dX10_all_63 rfl (lv_at hl 0 rfl) ?_
    refine lv_bipush (v := (9 : Int32)) hx hb dX10_all_64 (by decide) ?_
    obtain ⟨r9, hc8, h⟩ := dw_bdS h
    refine dw_cVi C0 Z dw_hA (dw_lt dw_kc142 (by decide)) (dw_cz10 dw_kc142) rfl (As := [.int (9 : Int32)]) (rest := []) (kX10_sumOfPipes l Γ hj μ (9 : Int32) hc8) (dw_gV tw_lX10_110 tw_vX10_sumOfPipes tw_eX10_sumOfPipes tw_iX10 tw_kX10_sumOfPipes) dw_hX10_sumOfPipes ⟨Nat.le_of_ble_eq_true rfl, Nat.le_of_ble_eq_true rfl⟩ ⟨Nat.zero_le _, Nat.zero_le _⟩ hl.1 (Nat.le_of_ble_eq_true rfl) rfl dX10_all_66 (fun H locs Z => ?_)
    obtain rfl := dw_s1 h
    exact dw_iret C0 Z hr hlk dX10_all_69
  have h := dw_ifF c7 h
  by_cases c10 : a1 = (3 : Int32)
  · have h := dw_ifT c10 h
    refine lv_tableIn (off := 69) (tgt := 70) hx hb dX10_all_1 (by rw [c10]; decide) (by rw [c10]; decide) (by rw [c10]; rfl) (by decide) ?_
    refine lv_aload_n hx hb dX10_all_70 rfl (lv_at hl 0 rfl) ?_
    refine dw_g10_0 (t := 143) C0 Z dw_kc142 tw_fX10_7 rfl dX10_all_71 ?_
    refine lv_bipush (v := (9 : Int32)) hx hb dX10_all_74 (by decide) ?_
    refine lv_iload_n hx hb dX10_all_76 rfl (lv_at hl 1 rfl) ?_
    refine lv_iadd hx hb dX10_all_77 ?_
    refine lv_iconst (v := (3 : Int32)) hx hb dX10_all_78 (by decide) ?_
    refine lv_isub hx hb dX10_all_79 ?_
    obtain ⟨g11, h⟩ := dw_gdS h
    refine dw_ald C0 Z dw_kc143 dw_lc143 g11 dX10_all_80 ?_
    obtain rfl := dw_s1 h
    exact dw_iret C0 Z hr hlk dX10_all_81
  have h := dw_ifF c10 h
  by_cases c12 : a1 = (4 : Int32)
  · have h := dw_ifT c12 h
    refine lv_tableIn (off := 69) (tgt := 70) hx hb dX10_all_1 (by rw [c12]; decide) (by rw [c12]; decide) (by rw [c12]; rfl) (by decide) ?_
    refine lv_aload_n hx hb dX10_all_70 rfl (lv_at hl 0 rfl) ?_
    refine dw_g10_0 (t := 143) C0 Z dw_kc142 tw_fX10_7 rfl dX10_all_71 ?_
    refine lv_bipush (v := (9 : Int32)) hx hb dX10_all_74 (by decide) ?_
    refine lv_iload_n hx hb dX10_all_76 rfl (lv_at hl 1 rfl) ?_
    refine lv_iadd hx hb dX10_all_77 ?_
    refine lv_iconst (v := (3 : Int32)) hx hb dX10_all_78 (by decide) ?_
    refine lv_isub hx hb dX10_all_79 ?_
    obtain ⟨g13, h⟩ := dw_gdS h
    refine dw_ald C0 Z dw_kc143 dw_lc143 g13 dX10_all_80 ?_
    obtain rfl := dw_s1 h
    exact dw_iret C0 Z hr hlk dX10_all_81
  have h := dw_ifF c12 h
  by_cases c14 : a1 = (5 : Int32)
  · have h := dw_ifT c14 h
    refine lv_tableIn (off := 69) (tgt := 70) hx hb dX10_all_1 (by rw [c14]; decide) (by rw [c14]; decide) (by rw [c14]; rfl) (by decide) ?_
    refine lv_aload_n hx hb dX10_all_70 rfl (lv_at hl 0 rfl) ?_
    refine dw_g10_0 (t := 143) C0 Z dw_kc142 tw_fX10_7 rfl dX10_all_71 ?_
    refine lv_bipush (v := (9 : Int32)) hx hb dX10_all_74 (by decide) ?_
    refine lv_iload_n hx hb dX10_all_76 rfl (lv_at hl 1 rfl) ?_
    refine lv_iadd hx hb dX10_all_77 ?_
    refine lv_iconst (v := (3 : Int32)) hx hb dX10_all_78 (by decide) ?_
    refine lv_isub hx hb dX10_all_79 ?_
    obtain ⟨g15, h⟩ := dw_gdS h
    refine dw_ald C0 Z dw_kc143 dw_lc143 g15 dX10_all_80 ?_
    obtain rfl := dw_s1 h
    exact dw_iret C0 Z hr hlk dX10_all_81
  have h := dw_ifF c14 h
  by_cases c16 : a1 = (6 : Int32)
  · have h := dw_ifT c16 h
    refine lv_tableIn (off := 69) (tgt := 70) hx hb dX10_all_1 (by rw [c16]; decide) (by rw [c16]; decide) (by rw [c16]; rfl) (by decide) ?_
    refine lv_aload_n hx hb dX10_all_70 rfl (lv_at hl 0 rfl) ?_
    refine dw_g10_0 (t := 143) C0 Z dw_kc142 tw_fX10_7 rfl dX10_all_71 ?_
    refine lv_bipush (v := (9 : Int32)) hx hb dX10_all_74 (by decide) ?_
    refine lv_iload_n hx hb dX10_all_76 rfl (lv_at hl 1 rfl) ?_
    refine lv_iadd hx hb dX10_all_77 ?_
    refine lv_iconst (v := (3 : Int32)) hx hb dX10_all_78 (by decide) ?_
    refine lv_isub hx hb dX10_all_79 ?_
    obtain ⟨g17, h⟩ := dw_gdS h
    refine dw_ald C0 Z dw_kc143 dw_lc143 g17 dX10_all_80 ?_
    obtain rfl := dw_s1 h
    exact dw_iret C0 Z hr hlk dX10_all_81
  have h := dw_ifF c16 h
  by_cases c18 : a1 = (7 : Int32)
  · have h := dw_ifT c18 h
    refine lv_tableIn (off := 81) (tgt := 82) hx hb dX10_all_1 (by rw [c18]; decide) (by rw [c18]; decide) (by rw [c18]; rfl) (by decide) ?_
    refine lv_aload_n hx hb dX10_all_82 rfl (lv_at hl 0 rfl) ?_
    refine dw_g10_0 (t := 143) C0 Z dw_kc142 tw_fX10_7 rfl dX10_all_83 ?_
    refine lv_bipush (v := (8 : Int32)) hx hb dX10_all_86 (by decide) ?_
    refine dw_ald C0 Z dw_kc143 dw_lc143 (by decide) dX10_all_88 ?_
    obtain rfl := dw_s1 h
    exact dw_iret C0 Z hr hlk dX10_all_89
  have h := dw_ifF c18 h
  have tc1 := dw_ti c1 (k := 0) (by decide)
  have tc4 := dw_ti c4 (k := 1) (by decide)
  have tc7 := dw_ti c7 (k := 2) (by decide)
  have tc10 := dw_ti c10 (k := 3) (by decide)
  have tc12 := dw_ti c12 (k := 4) (by decide)
  have tc14 := dw_ti c14 (k := 5) (by decide)
  have tc16 := dw_ti c16 (k := 6) (by decide)
  have tc18 := dw_ti c18 (k := 7) (by decide)
  refine lv_tableOut (tgt := 90) hx hb dX10_all_1 (by omega) (by decide) ?_
  refine lv_iconst (v := (-1 : Int32)) hx hb dX10_all_90 (by decide) ?_
  obtain rfl := dw_s1 h
  exact dw_iret C0 Z hr hlk dX10_all_91
