/-! THE CLAIM OUT OF ONE WALK OF THE LAW'S BODY. Your part is whole_start (and what it stands on); all else here is the same for every law, but numbers. -/
def R_law : String := "DrainOfficeLaw"
def lw_P (b : Addr) (xs : List Int32) (args : Array Value) (s : State) : Prop := args = #[.ref b] ∧ s.IntsAt b xs ∧ xs.length ≤ 3072 ∧ (Jvm.Cond.and given_1 narrow_1).before args s = true
def lw_Q (_ : Array Value) (s : State) (o : Outcome) (t : State) : Prop := o = .returned (some (.int 1)) ∧ Framed s o t [] 600000 7302250
def lw_Z (below : List Frame) (a : Array Value) (s : State) : State → Prop := fun t => ∃ o, t.status = .running ∧ Ended t below o ∧ lw_Q a s o t
/-- the law's own end, with 1 on the stack, nothing written that was there before, its room as the claim has it -/
theorem lw_ret {p : Program} {l : Launch} {e : Env} {s : State} {m : MethodId} {below : List Frame} {meth : Method} {c : Code} {b : Nat} (hx : p.tables.exec = Jvm.exec) (hb : c.code = code) (hr : meth.sig.returnType = ret) (hlocks : meth.locks = false) {pc : Nat} {H : Heap} {ls : Array Slot} (hdg : decode code pc = .ok (.ireturn, 1)) : W p l e room_1 s m #[Value.ref b] below meth c H [] 600000 7302250 (lw_Z below #[Value.ref b] s) (F0 m pc ls [.int 1]) := by
  intro T hT X
  obtain ⟨fs, hret, hrun, hended, hW, hframe⟩ := X.leave (v := some (.int 1)) (hlocks := hlocks) (fun h => by rw [hr] at h; cases h)
  have hmeth' : T.vm.method? m = some meth := X.method'
  refine ⟨T.setFrames fs, ?_, .returned (some (.int 1)), hrun, hended, rfl, ⟨_, rfl⟩, hW, hframe⟩
  jvm_step X.here [X.here.top, hx, hb, hdg, hmeth', hr, ret, narrow_b1]
  (try refine ⟨rfl, ?_⟩); (try refine ⟨rfl, ?_⟩)
  first | (intro acts; rw [hret _ acts rfl rfl rfl]) | rw [hret _ _ rfl rfl rfl]
  exact Steps.refl _
/-- what holds at the law's entry: the machine, the code, the tables' words (any of lw_tbl by 'hts w (by decide +kernel)'), the script of L ints xs at the cell b, what the Statement gives of the start (any of its parts by flat_of_before) -/
def lw_At (p : Program) (s : State) (m : MethodId) (meth : Method) (c : Code) (b L : Nat) (xs : Nat → Int32) : Prop :=
  p.tables.exec = Jvm.exec ∧ c.code = code ∧ meth.sig.returnType = ret ∧ c.maxLocals = 4 ∧ s.vm.findClass R_law = some m.cls ∧ (∀ w ∈ lw_tbl, w.before #[Value.ref b] s = true) ∧ va_X b L xs s s.heap ∧ b < s.heap.size ∧ meth.locks = false ∧ (Jvm.Cond.and given_1 narrow_1).before #[Value.ref b] s = true
def dn_μ : dw_M := dw_st (dw_st dn_m 143 0 1) 143 1 1
theorem dn_inj {Γ : dw_G} {b : Nat} (h : dn_ad Γ b) : dw_inj Γ := fun i j _ _ e => by have h1 := h i; have h2 := h j; omega
theorem dn_A {Γ : dw_G} {b : Nat} (h : dn_ad Γ b) : ∀ q, dw_A Γ q → b ≤ q := by
  rintro q ⟨i, hi, rfl⟩
  rw [h i]
  exact Nat.le_add_right b i
theorem dw_hX10_init : yX10_init.cls ≠ "java/lang/invoke/MethodHandle" ∧ yX10_init.cls ≠ "java/lang/invoke/VarHandle" ∧ (parseMethodDescriptor yX10_init.desc).map (fun d => d.parameters.length) = some 0 := by decide +kernel
set_option maxHeartbeats 4000000 in
set_option maxRecDepth 100000 in
theorem nX10_init (l : Launch) (Γ : dw_G) {b : Nat} (hj : dn_ad Γ b) {i : Nat} (hi : i = 142) (E0 : Nat → va_E) (hE : ∀ t, t < 142 → E0 t = dn_F Γ t) : Met l yX10_init (dw_ws yX10_init cX10_init 1 none) (dn_rm 1 5 2472 12) (dn_P Γ b E0 i (.inr (10, [.null, .null, .null, .int 0, .null, .null, .int 0]))) (va_Qv (fun _ : Unit => True) (fun _ t => va_P Γ.1 vwCl (dw_wl Γ dn_μ) t.heap) (fun q => b ≤ q)) 5 2472 (fun q => b ≤ q) := by
  have hk : dw_kd i = 10 := by rw [hi]; exact dw_kc142
  refine dn_met (own := RX10) rfl rfl rfl (by decide) hj ?_
  intro p e s m below meth c C0 hr hlk hin H locs B S ls hl
  have hx := C0.1
  have hb := C0.2.1
  refine lv_aload_n hx hb dX10_init_0 rfl (lv_at hl 0 rfl) ?_
  refine dn_obj C0 hl.1 tw_lX10_1 dX10_init_1 (Nat.le_of_ble_eq_true rfl) (Nat.le_of_ble_eq_true rfl) ?_
  refine lv_aload_n hx hb dX10_init_4 rfl (lv_at hl 0 rfl) ?_
  refine lv_sipush (v := (800 : Int32)) hx hb dX10_init_5 (by decide) ?_
  refine dn_arr C0 B S (N := 800) (by decide) (by decide) (by decide) (dn_F11 (dw_r10_0 hk) (dw_n10_0 hk)) (Nat.le_of_ble_eq_true rfl) (Nat.le_of_ble_eq_true rfl) dX10_init_8 (fun H B S => ?_)
  refine W.widen (k := 1) (n := 800) (by decide) (by decide) ?_
  have B : dn_B Γ b E0 i (.inr (10, [.null, .null, .null, .int 0, .null, .null, .int 0])) (i + 2) H := B
  refine dn_putF C0 hin B S rfl tw_u10 tyX10_ok nmX10 0 (by decide) tw_fX10_7 rfl rfl rfl rfl rfl (Nat.le_of_ble_eq_true rfl) dX10_init_10 (fun H locs B S => ?_)
  have B : dn_B Γ b E0 i (.inr (10, [.ref (dw_ad Γ (i + 1)), .null, .null, .int 0, .null, .null, .int 0])) (i + 2) H := B
  refine lv_aload_n hx hb dX10_init_13 rfl (lv_at hl 0 rfl) ?_
  refine lv_sipush (v := (800 : Int32)) hx hb dX10_init_14 (by decide) ?_
  refine dn_arr C0 B S (N := 800) (by decide) (by decide) (by decide) (dn_F11 (dw_r10_1 hk) (dw_n10_1 hk)) (Nat.le_of_ble_eq_true rfl) (Nat.le_of_ble_eq_true rfl) dX10_init_17 (fun H B S => ?_)
  refine W.widen (k := 2) (n := 1600) (by decide) (by decide) ?_
  have B : dn_B Γ b E0 i (.inr (10, [.ref (dw_ad Γ (i + 1)), .null, .null, .int 0, .null, .null, .int 0])) (i + 3) H := B
  refine dn_putF C0 hin B S rfl tw_u10 tyX10_ok nmX10 1 (by decide) tw_fX10_13 rfl rfl rfl rfl rfl (Nat.le_of_ble_eq_true rfl) dX10_init_19 (fun H locs B S => ?_)
  have B : dn_B Γ b E0 i (.inr (10, [.ref (dw_ad Γ (i + 1)), .ref (dw_ad Γ (i + 2)), .null, .int 0, .null, .null, .int 0])) (i + 3) H := B
  refine lv_aload_n hx hb dX10_init_22 rfl (lv_at hl 0 rfl) ?_
  refine lv_sipush (v := (800 : Int32)) hx hb dX10_init_23 (by decide) ?_
  refine dn_arr C0 B S (N := 800) (by decide) (by decide) (by decide) (dn_F11 (dw_r10_2 hk) (dw_n10_2 hk)) (Nat.le_of_ble_eq_true rfl) (Nat.le_of_ble_eq_true rfl) dX10_init_26 (fun H B S => ?_)
  refine W.widen (k := 3) (n := 2400) (by decide) (by decide) ?_
  have B : dn_B Γ b E0 i (.inr (10, [.ref (dw_ad Γ (i + 1)), .ref (dw_ad Γ (i + 2)), .null, .int 0, .null, .null, .int 0])) (i + 4) H := B
  refine dn_putF C0 hin B S rfl tw_u10 tyX10_ok nmX10 2 (by decide) tw_fX10_16 rfl rfl rfl rfl rfl (Nat.le_of_ble_eq_true rfl) dX10_init_28 (fun H locs B S => ?_)
  have B : dn_B Γ b E0 i (.inr (10, [.ref (dw_ad Γ (i + 1)), .ref (dw_ad Γ (i + 2)), .ref (dw_ad Γ (i + 3)), .int 0, .null, .null, .int 0])) (i + 4) H := B
  refine lv_aload_n hx hb dX10_init_31 rfl (lv_at hl 0 rfl) ?_
  refine lv_bipush (v := (36 : Int32)) hx hb dX10_init_32 (by decide) ?_
  refine dn_arr C0 B S (N := 36) (by decide) (by decide) (by decide) (dn_F11 (dw_r10_4 hk) (dw_n10_4 hk)) (Nat.le_of_ble_eq_true rfl) (Nat.le_of_ble_eq_true rfl) dX10_init_34 (fun H B S => ?_)
  refine W.widen (k := 4) (n := 2436) (by decide) (by decide) ?_
  have B : dn_B Γ b E0 i (.inr (10, [.ref (dw_ad Γ (i + 1)), .ref (dw_ad Γ (i + 2)), .ref (dw_ad Γ (i + 3)), .int 0, .null, .null, .int 0])) (i + 5) H := B
  refine dn_putF C0 hin B S rfl tw_u10 tyX10_ok nmX10 4 (by decide) tw_fX10_19 rfl rfl rfl rfl rfl (Nat.le_of_ble_eq_true rfl) dX10_init_36 (fun H locs B S => ?_)
  have B : dn_B Γ b E0 i (.inr (10, [.ref (dw_ad Γ (i + 1)), .ref (dw_ad Γ (i + 2)), .ref (dw_ad Γ (i + 3)), .int 0, .ref (dw_ad Γ (i + 4)), .null, .int 0])) (i + 5) H := B
  refine lv_aload_n hx hb dX10_init_39 rfl (lv_at hl 0 rfl) ?_
  refine lv_bipush (v := (36 : Int32)) hx hb dX10_init_40 (by decide) ?_
  refine dn_arr C0 B S (N := 36) (by decide) (by decide) (by decide) (dn_F11 (dw_r10_5 hk) (dw_n10_5 hk)) (Nat.le_of_ble_eq_true rfl) (Nat.le_of_ble_eq_true rfl) dX10_init_42 (fun H B S => ?_)
  refine W.widen (k := 5) (n := 2472) (by decide) (by decide) ?_
  have B : dn_B Γ b E0 i (.inr (10, [.ref (dw_ad Γ (i + 1)), .ref (dw_ad Γ (i + 2)), .ref (dw_ad Γ (i + 3)), .int 0, .ref (dw_ad Γ (i + 4)), .null, .int 0])) (i + 6) H := B
  refine dn_putF C0 hin B S rfl tw_u10 tyX10_ok nmX10 5 (by decide) tw_fX10_22 rfl rfl rfl rfl rfl (Nat.le_of_ble_eq_true rfl) dX10_init_44 (fun H locs B S => ?_)
  have B : dn_B Γ b E0 i (.inr (10, [.ref (dw_ad Γ (i + 1)), .ref (dw_ad Γ (i + 2)), .ref (dw_ad Γ (i + 3)), .int 0, .ref (dw_ad Γ (i + 4)), .ref (dw_ad Γ (i + 5)), .int 0])) (i + 6) H := B
  subst hi
  have hP : va_P Γ.1 vwCl (dw_wl Γ dn_m) H := by
    obtain ⟨E, hP, hz, h1, hlo, he, hd⟩ := B
    have e : dn_wl Γ E 148 = dw_wl Γ dn_m := by
      have h2 : ∀ t, t < 148 → E t = dn_F Γ t := fun t ht => by
        rcases Nat.lt_trichotomy t 142 with q | q | q
        · rw [hlo t q]; exact hE t q
        · subst q
          rw [he]
          unfold dn_F
          rw [dw_cz10 dw_kc142]
          simp [dw_f10, dn_m, dw_kc142]
        · exact hd t q ht
      rw [dn_cong h2]
      rfl
    rw [← e]
    exact hP
  have C1 : dw_C Γ p s m [Value.ref (dw_ad Γ 142)].toArray meth c cX10_init 1 RX10 := ⟨hx, hb, C0.2.2.1, C0.2.2.2.1, C0.2.2.2.2.1, C0.2.2.2.2.2.1.1, dn_inj hj⟩
  have Z : dw_Z Γ (fun q => b ≤ q) s.heap dn_m H locs := ⟨hP, S⟩
  refine lv_aload_n hx hb dX10_init_47 rfl (lv_at hl 0 rfl) ?_
  refine dw_g10_0 (t := 143) C1 Z dw_kc142 tw_fX10_7 rfl dX10_init_48 ?_
  refine lv_iconst (v := (0 : Int32)) hx hb dX10_init_51 (by decide) ?_
  refine lv_iconst (v := (1 : Int32)) hx hb dX10_init_52 (by decide) ?_
  refine dw_ast C1 Z (dn_A hj) dw_kc143 dw_lc143 (by decide) dX10_init_53 (fun μ1 e1 H locs Z => ?_)
  refine lv_aload_n hx hb dX10_init_54 rfl (lv_at hl 0 rfl) ?_
  refine dw_g10_0 (t := 143) C1 Z dw_kc142 tw_fX10_7 rfl dX10_init_55 ?_
  refine lv_iconst (v := (1 : Int32)) hx hb dX10_init_58 (by decide) ?_
  refine lv_iconst (v := (1 : Int32)) hx hb dX10_init_59 (by decide) ?_
  refine dw_ast C1 Z (dn_A hj) dw_kc143 dw_lc143 (by decide) dX10_init_60 (fun μ2 e2 H locs Z => ?_)
  have e3 : μ2 = dn_μ := by rw [e2, e1]; rfl
  subst e3
  exact W.vret hx hb hr (fun t ht _ => ⟨⟨(), rfl, trivial, show va_P Γ.1 vwCl (dw_wl Γ dn_μ) t.heap by rw [ht]; exact Z.1⟩, Z.2.F ht⟩) Z.2.2.2 dX10_init_61 hlk
/-! what the functions must keep: G k μ, the state behind k calls -/
def pl_land (G : Nat → dw_M → Prop) : Prop := ∀ (k : Nat) (μ : dw_M), k < 512 → G k μ → ∀ a1 : Int32, ∀ a2 : Int32, ∃ r : Int32, ∃ ν : dw_M, ∃ ξ : dw_M, fX9_land μ a1 a2 = some (r, ν) ∧ fX10_land ν a1 a2 = some (r, ξ) ∧ G (k + 1) ξ
def pl_height (G : Nat → dw_M → Prop) : Prop := ∀ (k : Nat) (μ : dw_M), k < 512 → G k μ → ∀ a1 : Int32, ∀ a2 : Int32, ∃ r : Int32, ∃ ν : dw_M, ∃ ξ : dw_M, fX9_height μ a1 a2 = some (r, ν) ∧ fX10_height ν a1 a2 = some (r, ξ) ∧ G (k + 1) ξ
def pl_soil (G : Nat → dw_M → Prop) : Prop := ∀ (k : Nat) (μ : dw_M), k < 512 → G k μ → ∀ a1 : Int32, ∀ a2 : Int32, ∃ r : Int32, ∃ ν : dw_M, ∃ ξ : dw_M, fX9_soil μ a1 a2 = some (r, ν) ∧ fX10_soil ν a1 a2 = some (r, ξ) ∧ G (k + 1) ξ
def pl_soils (G : Nat → dw_M → Prop) : Prop := ∀ (k : Nat) (μ : dw_M), k < 512 → G k μ → ∀ a1 : Int32, ∀ a2 : Int32, ∀ a3 : Int32, ∀ a4 : Int32, ∀ a5 : Int32, ∃ r : Int32, ∃ ν : dw_M, ∃ ξ : dw_M, fX9_soils μ a1 a2 a3 a4 a5 = some (r, ν) ∧ fX10_soils ν a1 a2 a3 a4 a5 = some (r, ξ) ∧ G (k + 1) ξ
def pl_ditch (G : Nat → dw_M → Prop) : Prop := ∀ (k : Nat) (μ : dw_M), k < 512 → G k μ → ∀ a1 : Int32, ∀ a2 : Int32, ∃ r : Int32, ∃ ν : dw_M, ∃ ξ : dw_M, fX9_ditch μ a1 a2 = some (r, ν) ∧ fX10_ditch ν a1 a2 = some (r, ξ) ∧ G (k + 1) ξ
def pl_trench (G : Nat → dw_M → Prop) : Prop := ∀ (k : Nat) (μ : dw_M), k < 512 → G k μ → ∀ a1 : Int32, ∀ a2 : Int32, ∀ a3 : Int32, ∀ a4 : Int32, ∃ r : Int32, ∃ ν : dw_M, ∃ ξ : dw_M, fX9_trench μ a1 a2 a3 a4 = some (r, ν) ∧ fX10_trench ν a1 a2 a3 a4 = some (r, ξ) ∧ G (k + 1) ξ
def pl_pipe (G : Nat → dw_M → Prop) : Prop := ∀ (k : Nat) (μ : dw_M), k < 512 → G k μ → ∀ a1 : Int32, ∀ a2 : Int32, ∀ a3 : Int32, ∃ r : Int32, ∃ ν : dw_M, ∃ ξ : dw_M, fX9_pipe μ a1 a2 a3 = some (r, ν) ∧ fX10_pipe ν a1 a2 a3 = some (r, ξ) ∧ G (k + 1) ξ
def pl_join (G : Nat → dw_M → Prop) : Prop := ∀ (k : Nat) (μ : dw_M), k < 512 → G k μ → ∀ a1 : Int32, ∀ a2 : Int32, ∃ r : Int32, ∃ ν : dw_M, ∃ ξ : dw_M, fX9_join μ a1 a2 = some (r, ν) ∧ fX10_join ν a1 a2 = some (r, ξ) ∧ G (k + 1) ξ
def pl_open (G : Nat → dw_M → Prop) : Prop := ∀ (k : Nat) (μ : dw_M), k < 512 → G k μ → ∀ a1 : Int32, ∀ a2 : Int32, ∃ r : Int32, ∃ ν : dw_M, ∃ ξ : dw_M, fX9_open μ a1 a2 = some (r, ν) ∧ fX10_open ν a1 a2 = some (r, ξ) ∧ G (k + 1) ξ
def pl_part (G : Nat → dw_M → Prop) : Prop := ∀ (k : Nat) (μ : dw_M), k < 512 → G k μ → ∀ a1 : Int32, ∃ r : Int32, ∃ ν : dw_M, ∃ ξ : dw_M, fX9_part μ a1 = some (r, ν) ∧ fX10_part ν a1 = some (r, ξ) ∧ G (k + 1) ξ
def pl_block (G : Nat → dw_M → Prop) : Prop := ∀ (k : Nat) (μ : dw_M), k < 512 → G k μ → ∀ a1 : Int32, ∀ a2 : Int32, (a2 = 0 ∨ a2 = 1) → ∃ r : Int32, ∃ ν : dw_M, ∃ ξ : dw_M, fX9_block μ a1 a2 = (r, ν) ∧ fX10_block ν a1 a2 = some (r, ξ) ∧ G (k + 1) ξ
def pl_of (G : Nat → dw_M → Prop) : Prop := ∀ (k : Nat) (μ : dw_M), k < 512 → G k μ → ∀ a1 : Int32, ∀ a2 : Int32, ∃ r : Int32, fX9_of μ a1 a2 = some r ∧ fX10_of μ a1 a2 = some r ∧ G (k + 1) μ
def pl_step (G : Nat → dw_M → Prop) : Prop := ∀ (k : Nat) (μ : dw_M), k < 512 → G k μ → ∀ a1 : Int32, ∀ a2 : Int32, ∀ a3 : Int32, ∃ r : Int32, fX9_step μ a1 a2 a3 = some r ∧ fX10_step μ a1 a2 a3 = some r ∧ G (k + 1) μ
def pl_rain (G : Nat → dw_M → Prop) : Prop := ∀ (k : Nat) (μ : dw_M), k < 512 → G k μ → ∀ a1 : Int32, ∀ a2 : Int32, ∃ r : Int32, ∃ ν : dw_M, ∃ ξ : dw_M, fX9_rain μ a1 a2 = some (r, ν) ∧ fX10_rain ν a1 a2 = some (r, ξ) ∧ G (k + 1) ξ
def pl_hours (G : Nat → dw_M → Prop) : Prop := ∀ (k : Nat) (μ : dw_M), k < 512 → G k μ → ∀ a1 : Int32, ∃ r : Int32, ∃ ν : dw_M, ∃ ξ : dw_M, fX9_hours μ a1 = some (r, ν) ∧ fX10_hours ν a1 = some (r, ξ) ∧ G (k + 1) ξ
def pl_at (G : Nat → dw_M → Prop) : Prop := ∀ (k : Nat) (μ : dw_M), k < 512 → G k μ → ∀ a1 : Int32, ∀ a2 : Int32, ∃ r : Int32, fX9_at μ a1 a2 = some r ∧ fX10_at μ a1 a2 = some r ∧ G (k + 1) μ
def pl_all (G : Nat → dw_M → Prop) : Prop := ∀ (k : Nat) (μ : dw_M), k < 512 → G k μ → ∀ a1 : Int32, ∃ r : Int32, fX9_all μ a1 = some r ∧ fX10_all μ a1 = some r ∧ G (k + 1) μ
def pl_many (G : Nat → dw_M → Prop) : Prop := ∀ (k : Nat) (μ : dw_M), k < 512 → G k μ → ∀ a1 : Int32, ∃ r : Int32, fX9_many μ a1 = some r ∧ fX10_many μ a1 = some r ∧ G (k + 1) μ
def pl_dry (G : Nat → dw_M → Prop) : Prop := ∀ (k : Nat) (μ : dw_M), k < 512 → G k μ → ∀ a1 : Int32, ∃ r : Int32, fX9_dry μ a1 = some r ∧ fX10_dry μ a1 = some r ∧ G (k + 1) μ
def pl_mark (G : Nat → dw_M → Prop) : Prop := ∀ (k : Nat) (μ : dw_M), k < 512 → G k μ → ∀ a1 : Int32, ∀ a2 : Int32, (a2 = 0 ∨ a2 = 1) → ∃ r : Int32, ∃ ν : dw_M, ∃ ξ : dw_M, fX9_mark μ a1 a2 = (r, ν) ∧ fX10_mark ν a1 a2 = some (r, ξ) ∧ G (k + 1) ξ
def pl_tree (G : Nat → dw_M → Prop) : Prop := ∀ (k : Nat) (μ : dw_M), k < 512 → G k μ → ∃ r : Int32, ∃ ν : dw_M, ∃ ξ : dw_M, fX9_tree μ = some (r, ν) ∧ fX10_tree ν = some (r, ξ) ∧ G (k + 1) ξ
def pl_pair (G : Nat → dw_M → Prop) : Prop := ∀ (k : Nat) (μ : dw_M), k < 512 → G k μ → ∀ a1 : Int32, ∃ r : Int32, ∃ ν : dw_M, ∃ ξ : dw_M, fX9_pair μ a1 = some (r, ν) ∧ fX10_pair ν a1 = some (r, ξ) ∧ G (k + 1) ξ
def pl_sight (G : Nat → dw_M → Prop) : Prop := ∀ (k : Nat) (μ : dw_M), k < 512 → G k μ → ∀ a1 : Int32, ∀ a2 : Int32, (a2 = 0 ∨ a2 = 1) → ∃ r : Int32, ∃ ν : dw_M, ∃ ξ : dw_M, fX9_sight μ a1 a2 = (r, ν) ∧ fX10_sight ν a1 a2 = some (r, ξ) ∧ G (k + 1) ξ
def pl_see (G : Nat → dw_M → Prop) : Prop := ∀ (k : Nat) (μ : dw_M), k < 512 → G k μ → ∃ r : Int32, ∃ ν : dw_M, ∃ ξ : dw_M, fX9_see μ = some (r, ν) ∧ fX10_see ν = some (r, ξ) ∧ G (k + 1) ξ
def pl_where (G : Nat → dw_M → Prop) : Prop := ∀ (k : Nat) (μ : dw_M), k < 512 → G k μ → ∀ a1 : Int32, ∀ a2 : Int32, ∃ r : Int32, ∃ ν : dw_M, ∃ ξ : dw_M, fX9_where μ a1 a2 = some (r, ν) ∧ fX10_where ν a1 a2 = some (r, ξ) ∧ G (k + 1) ξ
def pl_keep (G : Nat → dw_M → Prop) : Prop := ∀ (k : Nat) (μ : dw_M), k < 512 → G k μ → ∃ r : Int32, ∃ ν : dw_M, ∃ ξ : dw_M, fX9_keep μ = some (r, ν) ∧ fX10_keep ν = some (r, ξ) ∧ G (k + 1) ξ
def pl_back (G : Nat → dw_M → Prop) : Prop := ∀ (k : Nat) (μ : dw_M), k < 512 → G k μ → ∃ r : Int32, ∃ ν : dw_M, ∃ ξ : dw_M, fX9_back μ = some (r, ν) ∧ fX10_back ν = some (r, ξ) ∧ G (k + 1) ξ
def pq_good (G : Nat → dw_M → Prop) : Prop := (∀ (k : Nat) (μ : dw_M), k < 512 → G k μ → G (k + 1) μ) ∧ pl_land G ∧ pl_height G ∧ pl_soil G ∧ pl_soils G ∧ pl_ditch G ∧ pl_trench G ∧ pl_pipe G ∧ pl_join G ∧ pl_open G ∧ pl_part G ∧ pl_block G ∧ pl_of G ∧ pl_step G ∧ pl_rain G ∧ pl_hours G ∧ pl_at G ∧ pl_all G ∧ pl_many G ∧ pl_dry G ∧ pl_mark G ∧ pl_tree G ∧ pl_pair G ∧ pl_sight G ∧ pl_see G ∧ pl_where G ∧ pl_keep G ∧ pl_back G
theorem lw_gt {k L : Nat} (hk : 6 * k ≤ L) (hL : L ≤ 3072) : nI L - (6 : Int32) < nI (6 * k) ↔ L < 6 * k + 6 := by
  have e6 : (6 : Int32) = nI 6 := by decide
  rw [Int32.lt_iff_toInt_lt, e6, pk_sub_toInt (by omega) (by omega), nI_toInt (by omega)]
  omega
theorem lw_ix (k j : Nat) {x : Int32} (hx : x = nI k) {y : Int32} (hy : y = nI j) : x + y = nI (k + j) := by rw [hx, hy, nI_add]
set_option maxHeartbeats 8000000 in
set_option maxRecDepth 100000 in
theorem law_loop {G : Nat → dw_M → Prop} (hG : pq_good G) {p : Program} {l : Launch} {e : Env} {s : State} {m : MethodId} {below : List Frame} {meth : Method} {c : Code} {b L : Nat} {xs : Nat → Int32} (hL : L ≤ 3072) (C1 : lw_At p s m meth c b L xs) {Γ : dw_G} (C0 : dw_C Γ p s m #[Value.ref b] meth c cL_law 4 RL) (hj : dn_ad Γ s.heap.size) :
    ∀ (d k : Nat) (x3 : Int32) (μ : dw_M) (H : Heap) (locs : List Loc) (ls : Array Slot), L < 6 * k + 6 * d → 6 * k ≤ L → x3 = nI (6 * k) → G k μ → dw_Z Γ (fun q => s.heap.size ≤ q) s.heap μ H locs → lv_has ls 4 [(0, .ref b), (1, .ref (dw_ad Γ 0)), (2, .ref (dw_ad Γ 142)), (3, .int x3)] → W p l e room_1 s m #[Value.ref b] below meth c H locs 148 4569 (lw_Z below #[Value.ref b] s) (F0 m 18 ls []) := by
  obtain ⟨hx, hb, hr, hml, hown, hts, hX, hbl, hlocks, hgv⟩ := C1
  obtain ⟨hmono, q_land, q_height, q_soil, q_soils, q_ditch, q_trench, q_pipe, q_join, q_open, q_part, q_block, q_of, q_step, q_rain, q_hours, q_at, q_all, q_many, q_dry, q_mark, q_tree, q_pair, q_sight, q_see, q_where, q_keep, q_back⟩ := hG
  have hbA : ¬ (fun q : Nat => s.heap.size ≤ q) b := Nat.not_le.mpr hbl
  have hA := dn_A hj
  have hij := dn_inj hj
  intro d
  induction d with
  | zero =>
    intro k x3 μ H locs ls h1 h2
    omega
  | succ d ih =>
    intro k x3 μ H locs ls hd hk ex3 gG Z hl
    refine lv_iload_n hx hb dL_law_18 rfl (lv_at hl 3 rfl) ?_
    refine lv_aload_n hx hb dL_law_19 rfl (lv_at hl 0 rfl) ?_
    refine va_slen hx hb hX hbl hbA Z.2 dL_law_20 ?_
    refine lv_bipush (v := (6 : Int32)) hx hb dL_law_21 (by decide) ?_
    refine lv_isub hx hb dL_law_23 ?_
    refine lv_icmp_gt (tgt := 1031) hx hb dL_law_24 (by decide) (fun c0 => ?_) (fun c0 => ?_)
    · refine lv_iconst (v := 1) hx hb dL_law_1031 (by decide) ?_
      refine va_forget (fun q hq => Z.2.2.2 q hq) ?_
      refine W.widen (k := 600000) (n := 7302250) (by decide) (by decide) ?_
      exact lw_ret hx hb hr hlocks dL_law_1032
    · have hlt : 6 * k + 6 ≤ L := by
        rcases Nat.lt_or_ge L (6 * k + 6) with q | q
        · exact absurd (by rw [ex3]; exact (lw_gt hk hL).mpr q) c0
        · exact q
      have hk5 : k < 512 := by omega
      have NX : ∀ (ξ : dw_M) (H : Heap) (locs : List Loc) (ls : Array Slot), G (k + 1) ξ → dw_Z Γ (fun q => s.heap.size ≤ q) s.heap ξ H locs → lv_has ls 4 [(0, .ref b), (1, .ref (dw_ad Γ 0)), (2, .ref (dw_ad Γ 142)), (3, .int x3)] → W p l e room_1 s m #[Value.ref b] below meth c H locs 148 4569 (lw_Z below #[Value.ref b] s) (F0 m 1025 ls []) := by
        intro ξ H locs ls gG Z hl
        obtain ⟨y3, ey3⟩ : ∃ y : Int32, y = x3 + 6 := ⟨_, rfl⟩
        refine lv_iinc (v := y3) (lv' := [(3, .int y3), (0, .ref b), (1, .ref (dw_ad Γ 0)), (2, .ref (dw_ad Γ 142))]) hx hb dL_law_1025 hl (k := 3) rfl (by rw [ey3]; rfl) (by decide) rfl (fun ls hl => ?_)
        refine lv_goto (tgt := 18) hx hb dL_law_1028 (by decide) ?_
        exact ih (k + 1) y3 ξ H locs ls (by omega) (by omega) (by rw [ey3, lw_ix (6 * k) 6 ex3 (by decide)]; congr 1) gG Z (lv_sub hl [1, 2, 3, 0] rfl)
      have v0 : vp_in x3 L := by rw [ex3]; exact vp_in_nI (by omega) (by omega)
      have v1 : vp_in (x3 + (1 : Int32)) L := by rw [lw_ix (6 * k) 1 ex3 (by decide)]; exact vp_in_nI (by omega) (by omega)
      have v2 : vp_in (x3 + (2 : Int32)) L := by rw [lw_ix (6 * k) 2 ex3 (by decide)]; exact vp_in_nI (by omega) (by omega)
      have v3 : vp_in (x3 + (3 : Int32)) L := by rw [lw_ix (6 * k) 3 ex3 (by decide)]; exact vp_in_nI (by omega) (by omega)
      have v4 : vp_in (x3 + (4 : Int32)) L := by rw [lw_ix (6 * k) 4 ex3 (by decide)]; exact vp_in_nI (by omega) (by omega)
      have v5 : vp_in (x3 + (5 : Int32)) L := by rw [lw_ix (6 * k) 5 ex3 (by decide)]; exact vp_in_nI (by omega) (by omega)
      refine lv_aload_n hx hb dL_law_27 rfl (lv_at hl 0 rfl) ?_
      refine lv_iload_n hx hb dL_law_28 rfl (lv_at hl 3 rfl) ?_
      refine va_sld hx hb hX hbl hbA Z.2 v0 dL_law_29 ?_
      refine lv_bipush (v := (31 : Int32)) hx hb dL_law_30 (by decide) ?_
      refine lv_iand hx hb dL_law_32 ?_
      refine lv_topi (fun x0 ex0 => ?_)
      by_cases c1 : x0 = (0 : Int32)
      · refine lv_tableIn (off := 123) (tgt := 156) hx hb dL_law_33 (by rw [c1]; decide) (by rw [c1]; decide) (by rw [c1]; rfl) (by decide) ?_
        refine lv_aload_n hx hb dL_law_156 rfl (lv_at hl 1 rfl) ?_
        refine lv_aload_n hx hb dL_law_157 rfl (lv_at hl 0 rfl) ?_
        refine lv_iload_n hx hb dL_law_158 rfl (lv_at hl 3 rfl) ?_
        refine lv_iconst (v := (1 : Int32)) hx hb dL_law_159 (by decide) ?_
        refine lv_iadd hx hb dL_law_160 ?_
        refine va_sld hx hb hX hbl hbA Z.2 v1 dL_law_161 ?_
        refine lv_aload_n hx hb dL_law_162 rfl (lv_at hl 0 rfl) ?_
        refine lv_iload_n hx hb dL_law_163 rfl (lv_at hl 3 rfl) ?_
        refine lv_iconst (v := (2 : Int32)) hx hb dL_law_164 (by decide) ?_
        refine lv_iadd hx hb dL_law_165 ?_
        refine va_sld hx hb hX hbl hbA Z.2 v2 dL_law_166 ?_
        obtain ⟨r, ν, ξ, e9, e10, gG⟩ := q_land k μ hk5 gG (xs (x3 + (1 : Int32)).toNatClampNeg) (xs (x3 + (2 : Int32)).toNatClampNeg) 
        refine dw_cVi C0 Z hA (dw_lt dw_kc0 (by decide)) (dw_cz9 dw_kc0) rfl (As := [.int (xs (x3 + (1 : Int32)).toNatClampNeg), .int (xs (x3 + (2 : Int32)).toNatClampNeg)]) (rest := []) (kX9_land l Γ hij μ (xs (x3 + (1 : Int32)).toNatClampNeg) (xs (x3 + (2 : Int32)).toNatClampNeg) e9) (dw_gV tw_lL_13 tw_vX9_land tw_eX9_land tw_iX9 tw_kX9_land) dw_hX9_land ⟨Nat.le_of_ble_eq_true rfl, Nat.le_of_ble_eq_true rfl⟩ ⟨by decide, by decide⟩ hl.1 (Nat.le_of_ble_eq_true rfl) rfl dL_law_167 (fun H locs Z => ?_)
        refine lv_aload_n hx hb dL_law_170 rfl (lv_at hl 2 rfl) ?_
        refine lv_aload_n hx hb dL_law_171 rfl (lv_at hl 0 rfl) ?_
        refine lv_iload_n hx hb dL_law_172 rfl (lv_at hl 3 rfl) ?_
        refine lv_iconst (v := (1 : Int32)) hx hb dL_law_173 (by decide) ?_
        refine lv_iadd hx hb dL_law_174 ?_
        refine va_sld hx hb hX hbl hbA Z.2 v1 dL_law_175 ?_
        refine lv_aload_n hx hb dL_law_176 rfl (lv_at hl 0 rfl) ?_
        refine lv_iload_n hx hb dL_law_177 rfl (lv_at hl 3 rfl) ?_
        refine lv_iconst (v := (2 : Int32)) hx hb dL_law_178 (by decide) ?_
        refine lv_iadd hx hb dL_law_179 ?_
        refine va_sld hx hb hX hbl hbA Z.2 v2 dL_law_180 ?_
        refine dw_cVi C0 Z hA (dw_lt dw_kc142 (by decide)) (dw_cz10 dw_kc142) rfl (As := [.int (xs (x3 + (1 : Int32)).toNatClampNeg), .int (xs (x3 + (2 : Int32)).toNatClampNeg)]) (rest := [.int r]) (kX10_land l Γ hij ν (xs (x3 + (1 : Int32)).toNatClampNeg) (xs (x3 + (2 : Int32)).toNatClampNeg) e10) (dw_gV tw_lL_17 tw_vX10_land tw_eX10_land tw_iX10 tw_kX10_land) dw_hX10_land ⟨Nat.le_of_ble_eq_true rfl, Nat.le_of_ble_eq_true rfl⟩ ⟨by decide, by decide⟩ hl.1 (Nat.le_of_ble_eq_true rfl) rfl dL_law_181 (fun H locs Z => ?_)
        refine lv_icmp_eq (tgt := 1025) hx hb dL_law_184 (by decide) (fun _ => ?_) (fun z => absurd rfl z)
        exact NX _ H locs ls gG Z hl
      by_cases c2 : x0 = (1 : Int32)
      · refine lv_tableIn (off := 156) (tgt := 189) hx hb dL_law_33 (by rw [c2]; decide) (by rw [c2]; decide) (by rw [c2]; rfl) (by decide) ?_
        refine lv_aload_n hx hb dL_law_189 rfl (lv_at hl 1 rfl) ?_
        refine lv_aload_n hx hb dL_law_190 rfl (lv_at hl 0 rfl) ?_
        refine lv_iload_n hx hb dL_law_191 rfl (lv_at hl 3 rfl) ?_
        refine lv_iconst (v := (1 : Int32)) hx hb dL_law_192 (by decide) ?_
        refine lv_iadd hx hb dL_law_193 ?_
        refine va_sld hx hb hX hbl hbA Z.2 v1 dL_law_194 ?_
        refine lv_aload_n hx hb dL_law_195 rfl (lv_at hl 0 rfl) ?_
        refine lv_iload_n hx hb dL_law_196 rfl (lv_at hl 3 rfl) ?_
        refine lv_iconst (v := (2 : Int32)) hx hb dL_law_197 (by decide) ?_
        refine lv_iadd hx hb dL_law_198 ?_
        refine va_sld hx hb hX hbl hbA Z.2 v2 dL_law_199 ?_
        obtain ⟨r, ν, ξ, e9, e10, gG⟩ := q_height k μ hk5 gG (xs (x3 + (1 : Int32)).toNatClampNeg) (xs (x3 + (2 : Int32)).toNatClampNeg) 
        refine dw_cVi C0 Z hA (dw_lt dw_kc0 (by decide)) (dw_cz9 dw_kc0) rfl (As := [.int (xs (x3 + (1 : Int32)).toNatClampNeg), .int (xs (x3 + (2 : Int32)).toNatClampNeg)]) (rest := []) (kX9_height l Γ hij μ (xs (x3 + (1 : Int32)).toNatClampNeg) (xs (x3 + (2 : Int32)).toNatClampNeg) e9) (dw_gV tw_lL_18 tw_vX9_height tw_eX9_height tw_iX9 tw_kX9_height) dw_hX9_height ⟨Nat.le_of_ble_eq_true rfl, Nat.le_of_ble_eq_true rfl⟩ ⟨by decide, by decide⟩ hl.1 (Nat.le_of_ble_eq_true rfl) rfl dL_law_200 (fun H locs Z => ?_)
        refine lv_aload_n hx hb dL_law_203 rfl (lv_at hl 2 rfl) ?_
        refine lv_aload_n hx hb dL_law_204 rfl (lv_at hl 0 rfl) ?_
        refine lv_iload_n hx hb dL_law_205 rfl (lv_at hl 3 rfl) ?_
        refine lv_iconst (v := (1 : Int32)) hx hb dL_law_206 (by decide) ?_
        refine lv_iadd hx hb dL_law_207 ?_
        refine va_sld hx hb hX hbl hbA Z.2 v1 dL_law_208 ?_
        refine lv_aload_n hx hb dL_law_209 rfl (lv_at hl 0 rfl) ?_
        refine lv_iload_n hx hb dL_law_210 rfl (lv_at hl 3 rfl) ?_
        refine lv_iconst (v := (2 : Int32)) hx hb dL_law_211 (by decide) ?_
        refine lv_iadd hx hb dL_law_212 ?_
        refine va_sld hx hb hX hbl hbA Z.2 v2 dL_law_213 ?_
        refine dw_cVi C0 Z hA (dw_lt dw_kc142 (by decide)) (dw_cz10 dw_kc142) rfl (As := [.int (xs (x3 + (1 : Int32)).toNatClampNeg), .int (xs (x3 + (2 : Int32)).toNatClampNeg)]) (rest := [.int r]) (kX10_height l Γ hij ν (xs (x3 + (1 : Int32)).toNatClampNeg) (xs (x3 + (2 : Int32)).toNatClampNeg) e10) (dw_gV tw_lL_21 tw_vX10_height tw_eX10_height tw_iX10 tw_kX10_height) dw_hX10_height ⟨Nat.le_of_ble_eq_true rfl, Nat.le_of_ble_eq_true rfl⟩ ⟨by decide, by decide⟩ hl.1 (Nat.le_of_ble_eq_true rfl) rfl dL_law_214 (fun H locs Z => ?_)
        refine lv_icmp_eq (tgt := 1025) hx hb dL_law_217 (by decide) (fun _ => ?_) (fun z => absurd rfl z)
        exact NX _ H locs ls gG Z hl
      by_cases c3 : x0 = (2 : Int32)
      · refine lv_tableIn (off := 189) (tgt := 222) hx hb dL_law_33 (by rw [c3]; decide) (by rw [c3]; decide) (by rw [c3]; rfl) (by decide) ?_
        refine lv_aload_n hx hb dL_law_222 rfl (lv_at hl 1 rfl) ?_
        refine lv_aload_n hx hb dL_law_223 rfl (lv_at hl 0 rfl) ?_
        refine lv_iload_n hx hb dL_law_224 rfl (lv_at hl 3 rfl) ?_
        refine lv_iconst (v := (1 : Int32)) hx hb dL_law_225 (by decide) ?_
        refine lv_iadd hx hb dL_law_226 ?_
        refine va_sld hx hb hX hbl hbA Z.2 v1 dL_law_227 ?_
        refine lv_aload_n hx hb dL_law_228 rfl (lv_at hl 0 rfl) ?_
        refine lv_iload_n hx hb dL_law_229 rfl (lv_at hl 3 rfl) ?_
        refine lv_iconst (v := (2 : Int32)) hx hb dL_law_230 (by decide) ?_
        refine lv_iadd hx hb dL_law_231 ?_
        refine va_sld hx hb hX hbl hbA Z.2 v2 dL_law_232 ?_
        obtain ⟨r, ν, ξ, e9, e10, gG⟩ := q_soil k μ hk5 gG (xs (x3 + (1 : Int32)).toNatClampNeg) (xs (x3 + (2 : Int32)).toNatClampNeg) 
        refine dw_cVi C0 Z hA (dw_lt dw_kc0 (by decide)) (dw_cz9 dw_kc0) rfl (As := [.int (xs (x3 + (1 : Int32)).toNatClampNeg), .int (xs (x3 + (2 : Int32)).toNatClampNeg)]) (rest := []) (kX9_soil l Γ hij μ (xs (x3 + (1 : Int32)).toNatClampNeg) (xs (x3 + (2 : Int32)).toNatClampNeg) e9) (dw_gV tw_lL_22 tw_vX9_soil tw_eX9_soil tw_iX9 tw_kX9_soil) dw_hX9_soil ⟨Nat.le_of_ble_eq_true rfl, Nat.le_of_ble_eq_true rfl⟩ ⟨by decide, by decide⟩ hl.1 (Nat.le_of_ble_eq_true rfl) rfl dL_law_233 (fun H locs Z => ?_)
        refine lv_aload_n hx hb dL_law_236 rfl (lv_at hl 2 rfl) ?_
        refine lv_aload_n hx hb dL_law_237 rfl (lv_at hl 0 rfl) ?_
        refine lv_iload_n hx hb dL_law_238 rfl (lv_at hl 3 rfl) ?_
        refine lv_iconst (v := (1 : Int32)) hx hb dL_law_239 (by decide) ?_
        refine lv_iadd hx hb dL_law_240 ?_
        refine va_sld hx hb hX hbl hbA Z.2 v1 dL_law_241 ?_
        refine lv_aload_n hx hb dL_law_242 rfl (lv_at hl 0 rfl) ?_
        refine lv_iload_n hx hb dL_law_243 rfl (lv_at hl 3 rfl) ?_
        refine lv_iconst (v := (2 : Int32)) hx hb dL_law_244 (by decide) ?_
        refine lv_iadd hx hb dL_law_245 ?_
        refine va_sld hx hb hX hbl hbA Z.2 v2 dL_law_246 ?_
        refine dw_cVi C0 Z hA (dw_lt dw_kc142 (by decide)) (dw_cz10 dw_kc142) rfl (As := [.int (xs (x3 + (1 : Int32)).toNatClampNeg), .int (xs (x3 + (2 : Int32)).toNatClampNeg)]) (rest := [.int r]) (kX10_soil l Γ hij ν (xs (x3 + (1 : Int32)).toNatClampNeg) (xs (x3 + (2 : Int32)).toNatClampNeg) e10) (dw_gV tw_lL_25 tw_vX10_soil tw_eX10_soil tw_iX10 tw_kX10_soil) dw_hX10_soil ⟨Nat.le_of_ble_eq_true rfl, Nat.le_of_ble_eq_true rfl⟩ ⟨by decide, by decide⟩ hl.1 (Nat.le_of_ble_eq_true rfl) rfl dL_law_247 (fun H locs Z => ?_)
        refine lv_icmp_eq (tgt := 1025) hx hb dL_law_250 (by decide) (fun _ => ?_) (fun z => absurd rfl z)
        exact NX _ H locs ls gG Z hl
      by_cases c4 : x0 = (3 : Int32)
      · refine lv_tableIn (off := 222) (tgt := 255) hx hb dL_law_33 (by rw [c4]; decide) (by rw [c4]; decide) (by rw [c4]; rfl) (by decide) ?_
        refine lv_aload_n hx hb dL_law_255 rfl (lv_at hl 1 rfl) ?_
        refine lv_aload_n hx hb dL_law_256 rfl (lv_at hl 0 rfl) ?_
        refine lv_iload_n hx hb dL_law_257 rfl (lv_at hl 3 rfl) ?_
        refine lv_iconst (v := (1 : Int32)) hx hb dL_law_258 (by decide) ?_
        refine lv_iadd hx hb dL_law_259 ?_
        refine va_sld hx hb hX hbl hbA Z.2 v1 dL_law_260 ?_
        refine lv_aload_n hx hb dL_law_261 rfl (lv_at hl 0 rfl) ?_
        refine lv_iload_n hx hb dL_law_262 rfl (lv_at hl 3 rfl) ?_
        refine lv_iconst (v := (2 : Int32)) hx hb dL_law_263 (by decide) ?_
        refine lv_iadd hx hb dL_law_264 ?_
        refine va_sld hx hb hX hbl hbA Z.2 v2 dL_law_265 ?_
        refine lv_aload_n hx hb dL_law_266 rfl (lv_at hl 0 rfl) ?_
        refine lv_iload_n hx hb dL_law_267 rfl (lv_at hl 3 rfl) ?_
        refine lv_iconst (v := (3 : Int32)) hx hb dL_law_268 (by decide) ?_
        refine lv_iadd hx hb dL_law_269 ?_
        refine va_sld hx hb hX hbl hbA Z.2 v3 dL_law_270 ?_
        refine lv_aload_n hx hb dL_law_271 rfl (lv_at hl 0 rfl) ?_
        refine lv_iload_n hx hb dL_law_272 rfl (lv_at hl 3 rfl) ?_
        refine lv_iconst (v := (4 : Int32)) hx hb dL_law_273 (by decide) ?_
        refine lv_iadd hx hb dL_law_274 ?_
        refine va_sld hx hb hX hbl hbA Z.2 v4 dL_law_275 ?_
        refine lv_aload_n hx hb dL_law_276 rfl (lv_at hl 0 rfl) ?_
        refine lv_iload_n hx hb dL_law_277 rfl (lv_at hl 3 rfl) ?_
        refine lv_iconst (v := (5 : Int32)) hx hb dL_law_278 (by decide) ?_
        refine lv_iadd hx hb dL_law_279 ?_
        refine va_sld hx hb hX hbl hbA Z.2 v5 dL_law_280 ?_
        obtain ⟨r, ν, ξ, e9, e10, gG⟩ := q_soils k μ hk5 gG (xs (x3 + (1 : Int32)).toNatClampNeg) (xs (x3 + (2 : Int32)).toNatClampNeg) (xs (x3 + (3 : Int32)).toNatClampNeg) (xs (x3 + (4 : Int32)).toNatClampNeg) (xs (x3 + (5 : Int32)).toNatClampNeg) 
        refine dw_cVi C0 Z hA (dw_lt dw_kc0 (by decide)) (dw_cz9 dw_kc0) rfl (As := [.int (xs (x3 + (1 : Int32)).toNatClampNeg), .int (xs (x3 + (2 : Int32)).toNatClampNeg), .int (xs (x3 + (3 : Int32)).toNatClampNeg), .int (xs (x3 + (4 : Int32)).toNatClampNeg), .int (xs (x3 + (5 : Int32)).toNatClampNeg)]) (rest := []) (kX9_soils l Γ hij μ (xs (x3 + (1 : Int32)).toNatClampNeg) (xs (x3 + (2 : Int32)).toNatClampNeg) (xs (x3 + (3 : Int32)).toNatClampNeg) (xs (x3 + (4 : Int32)).toNatClampNeg) (xs (x3 + (5 : Int32)).toNatClampNeg) e9) (dw_gV tw_lL_26 tw_vX9_soils tw_eX9_soils tw_iX9 tw_kX9_soils) dw_hX9_soils ⟨Nat.le_of_ble_eq_true rfl, Nat.le_of_ble_eq_true rfl⟩ ⟨by decide, by decide⟩ hl.1 (Nat.le_of_ble_eq_true rfl) rfl dL_law_281 (fun H locs Z => ?_)
        refine lv_aload_n hx hb dL_law_284 rfl (lv_at hl 2 rfl) ?_
        refine lv_aload_n hx hb dL_law_285 rfl (lv_at hl 0 rfl) ?_
        refine lv_iload_n hx hb dL_law_286 rfl (lv_at hl 3 rfl) ?_
        refine lv_iconst (v := (1 : Int32)) hx hb dL_law_287 (by decide) ?_
        refine lv_iadd hx hb dL_law_288 ?_
        refine va_sld hx hb hX hbl hbA Z.2 v1 dL_law_289 ?_
        refine lv_aload_n hx hb dL_law_290 rfl (lv_at hl 0 rfl) ?_
        refine lv_iload_n hx hb dL_law_291 rfl (lv_at hl 3 rfl) ?_
        refine lv_iconst (v := (2 : Int32)) hx hb dL_law_292 (by decide) ?_
        refine lv_iadd hx hb dL_law_293 ?_
        refine va_sld hx hb hX hbl hbA Z.2 v2 dL_law_294 ?_
        refine lv_aload_n hx hb dL_law_295 rfl (lv_at hl 0 rfl) ?_
        refine lv_iload_n hx hb dL_law_296 rfl (lv_at hl 3 rfl) ?_
        refine lv_iconst (v := (3 : Int32)) hx hb dL_law_297 (by decide) ?_
        refine lv_iadd hx hb dL_law_298 ?_
        refine va_sld hx hb hX hbl hbA Z.2 v3 dL_law_299 ?_
        refine lv_aload_n hx hb dL_law_300 rfl (lv_at hl 0 rfl) ?_
        refine lv_iload_n hx hb dL_law_301 rfl (lv_at hl 3 rfl) ?_
        refine lv_iconst (v := (4 : Int32)) hx hb dL_law_302 (by decide) ?_
        refine lv_iadd hx hb dL_law_303 ?_
        refine va_sld hx hb hX hbl hbA Z.2 v4 dL_law_304 ?_
        refine lv_aload_n hx hb dL_law_305 rfl (lv_at hl 0 rfl) ?_
        refine lv_iload_n hx hb dL_law_306 rfl (lv_at hl 3 rfl) ?_
        refine lv_iconst (v := (5 : Int32)) hx hb dL_law_307 (by decide) ?_
        refine lv_iadd hx hb dL_law_308 ?_
        refine va_sld hx hb hX hbl hbA Z.2 v5 dL_law_309 ?_
        refine dw_cVi C0 Z hA (dw_lt dw_kc142 (by decide)) (dw_cz10 dw_kc142) rfl (As := [.int (xs (x3 + (1 : Int32)).toNatClampNeg), .int (xs (x3 + (2 : Int32)).toNatClampNeg), .int (xs (x3 + (3 : Int32)).toNatClampNeg), .int (xs (x3 + (4 : Int32)).toNatClampNeg), .int (xs (x3 + (5 : Int32)).toNatClampNeg)]) (rest := [.int r]) (kX10_soils l Γ hij ν (xs (x3 + (1 : Int32)).toNatClampNeg) (xs (x3 + (2 : Int32)).toNatClampNeg) (xs (x3 + (3 : Int32)).toNatClampNeg) (xs (x3 + (4 : Int32)).toNatClampNeg) (xs (x3 + (5 : Int32)).toNatClampNeg) e10) (dw_gV tw_lL_30 tw_vX10_soils tw_eX10_soils tw_iX10 tw_kX10_soils) dw_hX10_soils ⟨Nat.le_of_ble_eq_true rfl, Nat.le_of_ble_eq_true rfl⟩ ⟨by decide, by decide⟩ hl.1 (Nat.le_of_ble_eq_true rfl) rfl dL_law_310 (fun H locs Z => ?_)
        refine lv_icmp_eq (tgt := 1025) hx hb dL_law_313 (by decide) (fun _ => ?_) (fun z => absurd rfl z)
        exact NX _ H locs ls gG Z hl
      by_cases c5 : x0 = (4 : Int32)
      · refine lv_tableIn (off := 285) (tgt := 318) hx hb dL_law_33 (by rw [c5]; decide) (by rw [c5]; decide) (by rw [c5]; rfl) (by decide) ?_
        refine lv_aload_n hx hb dL_law_318 rfl (lv_at hl 1 rfl) ?_
        refine lv_aload_n hx hb dL_law_319 rfl (lv_at hl 0 rfl) ?_
        refine lv_iload_n hx hb dL_law_320 rfl (lv_at hl 3 rfl) ?_
        refine lv_iconst (v := (1 : Int32)) hx hb dL_law_321 (by decide) ?_
        refine lv_iadd hx hb dL_law_322 ?_
        refine va_sld hx hb hX hbl hbA Z.2 v1 dL_law_323 ?_
        refine lv_aload_n hx hb dL_law_324 rfl (lv_at hl 0 rfl) ?_
        refine lv_iload_n hx hb dL_law_325 rfl (lv_at hl 3 rfl) ?_
        refine lv_iconst (v := (2 : Int32)) hx hb dL_law_326 (by decide) ?_
        refine lv_iadd hx hb dL_law_327 ?_
        refine va_sld hx hb hX hbl hbA Z.2 v2 dL_law_328 ?_
        obtain ⟨r, ν, ξ, e9, e10, gG⟩ := q_ditch k μ hk5 gG (xs (x3 + (1 : Int32)).toNatClampNeg) (xs (x3 + (2 : Int32)).toNatClampNeg) 
        refine dw_cVi C0 Z hA (dw_lt dw_kc0 (by decide)) (dw_cz9 dw_kc0) rfl (As := [.int (xs (x3 + (1 : Int32)).toNatClampNeg), .int (xs (x3 + (2 : Int32)).toNatClampNeg)]) (rest := []) (kX9_ditch l Γ hij μ (xs (x3 + (1 : Int32)).toNatClampNeg) (xs (x3 + (2 : Int32)).toNatClampNeg) e9) (dw_gV tw_lL_31 tw_vX9_ditch tw_eX9_ditch tw_iX9 tw_kX9_ditch) dw_hX9_ditch ⟨Nat.le_of_ble_eq_true rfl, Nat.le_of_ble_eq_true rfl⟩ ⟨by decide, by decide⟩ hl.1 (Nat.le_of_ble_eq_true rfl) rfl dL_law_329 (fun H locs Z => ?_)
        refine lv_aload_n hx hb dL_law_332 rfl (lv_at hl 2 rfl) ?_
        refine lv_aload_n hx hb dL_law_333 rfl (lv_at hl 0 rfl) ?_
        refine lv_iload_n hx hb dL_law_334 rfl (lv_at hl 3 rfl) ?_
        refine lv_iconst (v := (1 : Int32)) hx hb dL_law_335 (by decide) ?_
        refine lv_iadd hx hb dL_law_336 ?_
        refine va_sld hx hb hX hbl hbA Z.2 v1 dL_law_337 ?_
        refine lv_aload_n hx hb dL_law_338 rfl (lv_at hl 0 rfl) ?_
        refine lv_iload_n hx hb dL_law_339 rfl (lv_at hl 3 rfl) ?_
        refine lv_iconst (v := (2 : Int32)) hx hb dL_law_340 (by decide) ?_
        refine lv_iadd hx hb dL_law_341 ?_
        refine va_sld hx hb hX hbl hbA Z.2 v2 dL_law_342 ?_
        refine dw_cVi C0 Z hA (dw_lt dw_kc142 (by decide)) (dw_cz10 dw_kc142) rfl (As := [.int (xs (x3 + (1 : Int32)).toNatClampNeg), .int (xs (x3 + (2 : Int32)).toNatClampNeg)]) (rest := [.int r]) (kX10_ditch l Γ hij ν (xs (x3 + (1 : Int32)).toNatClampNeg) (xs (x3 + (2 : Int32)).toNatClampNeg) e10) (dw_gV tw_lL_34 tw_vX10_ditch tw_eX10_ditch tw_iX10 tw_kX10_ditch) dw_hX10_ditch ⟨Nat.le_of_ble_eq_true rfl, Nat.le_of_ble_eq_true rfl⟩ ⟨by decide, by decide⟩ hl.1 (Nat.le_of_ble_eq_true rfl) rfl dL_law_343 (fun H locs Z => ?_)
        refine lv_icmp_eq (tgt := 1025) hx hb dL_law_346 (by decide) (fun _ => ?_) (fun z => absurd rfl z)
        exact NX _ H locs ls gG Z hl
      by_cases c6 : x0 = (5 : Int32)
      · refine lv_tableIn (off := 318) (tgt := 351) hx hb dL_law_33 (by rw [c6]; decide) (by rw [c6]; decide) (by rw [c6]; rfl) (by decide) ?_
        refine lv_aload_n hx hb dL_law_351 rfl (lv_at hl 1 rfl) ?_
        refine lv_aload_n hx hb dL_law_352 rfl (lv_at hl 0 rfl) ?_
        refine lv_iload_n hx hb dL_law_353 rfl (lv_at hl 3 rfl) ?_
        refine lv_iconst (v := (1 : Int32)) hx hb dL_law_354 (by decide) ?_
        refine lv_iadd hx hb dL_law_355 ?_
        refine va_sld hx hb hX hbl hbA Z.2 v1 dL_law_356 ?_
        refine lv_aload_n hx hb dL_law_357 rfl (lv_at hl 0 rfl) ?_
        refine lv_iload_n hx hb dL_law_358 rfl (lv_at hl 3 rfl) ?_
        refine lv_iconst (v := (2 : Int32)) hx hb dL_law_359 (by decide) ?_
        refine lv_iadd hx hb dL_law_360 ?_
        refine va_sld hx hb hX hbl hbA Z.2 v2 dL_law_361 ?_
        refine lv_aload_n hx hb dL_law_362 rfl (lv_at hl 0 rfl) ?_
        refine lv_iload_n hx hb dL_law_363 rfl (lv_at hl 3 rfl) ?_
        refine lv_iconst (v := (3 : Int32)) hx hb dL_law_364 (by decide) ?_
        refine lv_iadd hx hb dL_law_365 ?_
        refine va_sld hx hb hX hbl hbA Z.2 v3 dL_law_366 ?_
        refine lv_aload_n hx hb dL_law_367 rfl (lv_at hl 0 rfl) ?_
        refine lv_iload_n hx hb dL_law_368 rfl (lv_at hl 3 rfl) ?_
        refine lv_iconst (v := (4 : Int32)) hx hb dL_law_369 (by decide) ?_
        refine lv_iadd hx hb dL_law_370 ?_
        refine va_sld hx hb hX hbl hbA Z.2 v4 dL_law_371 ?_
        obtain ⟨r, ν, ξ, e9, e10, gG⟩ := q_trench k μ hk5 gG (xs (x3 + (1 : Int32)).toNatClampNeg) (xs (x3 + (2 : Int32)).toNatClampNeg) (xs (x3 + (3 : Int32)).toNatClampNeg) (xs (x3 + (4 : Int32)).toNatClampNeg) 
        refine dw_cVi C0 Z hA (dw_lt dw_kc0 (by decide)) (dw_cz9 dw_kc0) rfl (As := [.int (xs (x3 + (1 : Int32)).toNatClampNeg), .int (xs (x3 + (2 : Int32)).toNatClampNeg), .int (xs (x3 + (3 : Int32)).toNatClampNeg), .int (xs (x3 + (4 : Int32)).toNatClampNeg)]) (rest := []) (kX9_trench l Γ hij μ (xs (x3 + (1 : Int32)).toNatClampNeg) (xs (x3 + (2 : Int32)).toNatClampNeg) (xs (x3 + (3 : Int32)).toNatClampNeg) (xs (x3 + (4 : Int32)).toNatClampNeg) e9) (dw_gV tw_lL_35 tw_vX9_trench tw_eX9_trench tw_iX9 tw_kX9_trench) dw_hX9_trench ⟨Nat.le_of_ble_eq_true rfl, Nat.le_of_ble_eq_true rfl⟩ ⟨by decide, by decide⟩ hl.1 (Nat.le_of_ble_eq_true rfl) rfl dL_law_372 (fun H locs Z => ?_)
        refine lv_aload_n hx hb dL_law_375 rfl (lv_at hl 2 rfl) ?_
        refine lv_aload_n hx hb dL_law_376 rfl (lv_at hl 0 rfl) ?_
        refine lv_iload_n hx hb dL_law_377 rfl (lv_at hl 3 rfl) ?_
        refine lv_iconst (v := (1 : Int32)) hx hb dL_law_378 (by decide) ?_
        refine lv_iadd hx hb dL_law_379 ?_
        refine va_sld hx hb hX hbl hbA Z.2 v1 dL_law_380 ?_
        refine lv_aload_n hx hb dL_law_381 rfl (lv_at hl 0 rfl) ?_
        refine lv_iload_n hx hb dL_law_382 rfl (lv_at hl 3 rfl) ?_
        refine lv_iconst (v := (2 : Int32)) hx hb dL_law_383 (by decide) ?_
        refine lv_iadd hx hb dL_law_384 ?_
        refine va_sld hx hb hX hbl hbA Z.2 v2 dL_law_385 ?_
        refine lv_aload_n hx hb dL_law_386 rfl (lv_at hl 0 rfl) ?_
        refine lv_iload_n hx hb dL_law_387 rfl (lv_at hl 3 rfl) ?_
        refine lv_iconst (v := (3 : Int32)) hx hb dL_law_388 (by decide) ?_
        refine lv_iadd hx hb dL_law_389 ?_
        refine va_sld hx hb hX hbl hbA Z.2 v3 dL_law_390 ?_
        refine lv_aload_n hx hb dL_law_391 rfl (lv_at hl 0 rfl) ?_
        refine lv_iload_n hx hb dL_law_392 rfl (lv_at hl 3 rfl) ?_
        refine lv_iconst (v := (4 : Int32)) hx hb dL_law_393 (by decide) ?_
        refine lv_iadd hx hb dL_law_394 ?_
        refine va_sld hx hb hX hbl hbA Z.2 v4 dL_law_395 ?_
        refine dw_cVi C0 Z hA (dw_lt dw_kc142 (by decide)) (dw_cz10 dw_kc142) rfl (As := [.int (xs (x3 + (1 : Int32)).toNatClampNeg), .int (xs (x3 + (2 : Int32)).toNatClampNeg), .int (xs (x3 + (3 : Int32)).toNatClampNeg), .int (xs (x3 + (4 : Int32)).toNatClampNeg)]) (rest := [.int r]) (kX10_trench l Γ hij ν (xs (x3 + (1 : Int32)).toNatClampNeg) (xs (x3 + (2 : Int32)).toNatClampNeg) (xs (x3 + (3 : Int32)).toNatClampNeg) (xs (x3 + (4 : Int32)).toNatClampNeg) e10) (dw_gV tw_lL_39 tw_vX10_trench tw_eX10_trench tw_iX10 tw_kX10_trench) dw_hX10_trench ⟨Nat.le_of_ble_eq_true rfl, Nat.le_of_ble_eq_true rfl⟩ ⟨by decide, by decide⟩ hl.1 (Nat.le_of_ble_eq_true rfl) rfl dL_law_396 (fun H locs Z => ?_)
        refine lv_icmp_eq (tgt := 1025) hx hb dL_law_399 (by decide) (fun _ => ?_) (fun z => absurd rfl z)
        exact NX _ H locs ls gG Z hl
      by_cases c7 : x0 = (6 : Int32)
      · refine lv_tableIn (off := 371) (tgt := 404) hx hb dL_law_33 (by rw [c7]; decide) (by rw [c7]; decide) (by rw [c7]; rfl) (by decide) ?_
        refine lv_aload_n hx hb dL_law_404 rfl (lv_at hl 1 rfl) ?_
        refine lv_aload_n hx hb dL_law_405 rfl (lv_at hl 0 rfl) ?_
        refine lv_iload_n hx hb dL_law_406 rfl (lv_at hl 3 rfl) ?_
        refine lv_iconst (v := (1 : Int32)) hx hb dL_law_407 (by decide) ?_
        refine lv_iadd hx hb dL_law_408 ?_
        refine va_sld hx hb hX hbl hbA Z.2 v1 dL_law_409 ?_
        refine lv_aload_n hx hb dL_law_410 rfl (lv_at hl 0 rfl) ?_
        refine lv_iload_n hx hb dL_law_411 rfl (lv_at hl 3 rfl) ?_
        refine lv_iconst (v := (2 : Int32)) hx hb dL_law_412 (by decide) ?_
        refine lv_iadd hx hb dL_law_413 ?_
        refine va_sld hx hb hX hbl hbA Z.2 v2 dL_law_414 ?_
        refine lv_aload_n hx hb dL_law_415 rfl (lv_at hl 0 rfl) ?_
        refine lv_iload_n hx hb dL_law_416 rfl (lv_at hl 3 rfl) ?_
        refine lv_iconst (v := (3 : Int32)) hx hb dL_law_417 (by decide) ?_
        refine lv_iadd hx hb dL_law_418 ?_
        refine va_sld hx hb hX hbl hbA Z.2 v3 dL_law_419 ?_
        obtain ⟨r, ν, ξ, e9, e10, gG⟩ := q_pipe k μ hk5 gG (xs (x3 + (1 : Int32)).toNatClampNeg) (xs (x3 + (2 : Int32)).toNatClampNeg) (xs (x3 + (3 : Int32)).toNatClampNeg) 
        refine dw_cVi C0 Z hA (dw_lt dw_kc0 (by decide)) (dw_cz9 dw_kc0) rfl (As := [.int (xs (x3 + (1 : Int32)).toNatClampNeg), .int (xs (x3 + (2 : Int32)).toNatClampNeg), .int (xs (x3 + (3 : Int32)).toNatClampNeg)]) (rest := []) (kX9_pipe l Γ hij μ (xs (x3 + (1 : Int32)).toNatClampNeg) (xs (x3 + (2 : Int32)).toNatClampNeg) (xs (x3 + (3 : Int32)).toNatClampNeg) e9) (dw_gV tw_lL_40 tw_vX9_pipe tw_eX9_pipe tw_iX9 tw_kX9_pipe) dw_hX9_pipe ⟨Nat.le_of_ble_eq_true rfl, Nat.le_of_ble_eq_true rfl⟩ ⟨by decide, by decide⟩ hl.1 (Nat.le_of_ble_eq_true rfl) rfl dL_law_420 (fun H locs Z => ?_)
        refine lv_aload_n hx hb dL_law_423 rfl (lv_at hl 2 rfl) ?_
        refine lv_aload_n hx hb dL_law_424 rfl (lv_at hl 0 rfl) ?_
        refine lv_iload_n hx hb dL_law_425 rfl (lv_at hl 3 rfl) ?_
        refine lv_iconst (v := (1 : Int32)) hx hb dL_law_426 (by decide) ?_
        refine lv_iadd hx hb dL_law_427 ?_
        refine va_sld hx hb hX hbl hbA Z.2 v1 dL_law_428 ?_
        refine lv_aload_n hx hb dL_law_429 rfl (lv_at hl 0 rfl) ?_
        refine lv_iload_n hx hb dL_law_430 rfl (lv_at hl 3 rfl) ?_
        refine lv_iconst (v := (2 : Int32)) hx hb dL_law_431 (by decide) ?_
        refine lv_iadd hx hb dL_law_432 ?_
        refine va_sld hx hb hX hbl hbA Z.2 v2 dL_law_433 ?_
        refine lv_aload_n hx hb dL_law_434 rfl (lv_at hl 0 rfl) ?_
        refine lv_iload_n hx hb dL_law_435 rfl (lv_at hl 3 rfl) ?_
        refine lv_iconst (v := (3 : Int32)) hx hb dL_law_436 (by decide) ?_
        refine lv_iadd hx hb dL_law_437 ?_
        refine va_sld hx hb hX hbl hbA Z.2 v3 dL_law_438 ?_
        refine dw_cVi C0 Z hA (dw_lt dw_kc142 (by decide)) (dw_cz10 dw_kc142) rfl (As := [.int (xs (x3 + (1 : Int32)).toNatClampNeg), .int (xs (x3 + (2 : Int32)).toNatClampNeg), .int (xs (x3 + (3 : Int32)).toNatClampNeg)]) (rest := [.int r]) (kX10_pipe l Γ hij ν (xs (x3 + (1 : Int32)).toNatClampNeg) (xs (x3 + (2 : Int32)).toNatClampNeg) (xs (x3 + (3 : Int32)).toNatClampNeg) e10) (dw_gV tw_lL_44 tw_vX10_pipe tw_eX10_pipe tw_iX10 tw_kX10_pipe) dw_hX10_pipe ⟨Nat.le_of_ble_eq_true rfl, Nat.le_of_ble_eq_true rfl⟩ ⟨by decide, by decide⟩ hl.1 (Nat.le_of_ble_eq_true rfl) rfl dL_law_439 (fun H locs Z => ?_)
        refine lv_icmp_eq (tgt := 1025) hx hb dL_law_442 (by decide) (fun _ => ?_) (fun z => absurd rfl z)
        exact NX _ H locs ls gG Z hl
      by_cases c8 : x0 = (7 : Int32)
      · refine lv_tableIn (off := 414) (tgt := 447) hx hb dL_law_33 (by rw [c8]; decide) (by rw [c8]; decide) (by rw [c8]; rfl) (by decide) ?_
        refine lv_aload_n hx hb dL_law_447 rfl (lv_at hl 1 rfl) ?_
        refine lv_aload_n hx hb dL_law_448 rfl (lv_at hl 0 rfl) ?_
        refine lv_iload_n hx hb dL_law_449 rfl (lv_at hl 3 rfl) ?_
        refine lv_iconst (v := (1 : Int32)) hx hb dL_law_450 (by decide) ?_
        refine lv_iadd hx hb dL_law_451 ?_
        refine va_sld hx hb hX hbl hbA Z.2 v1 dL_law_452 ?_
        refine lv_aload_n hx hb dL_law_453 rfl (lv_at hl 0 rfl) ?_
        refine lv_iload_n hx hb dL_law_454 rfl (lv_at hl 3 rfl) ?_
        refine lv_iconst (v := (2 : Int32)) hx hb dL_law_455 (by decide) ?_
        refine lv_iadd hx hb dL_law_456 ?_
        refine va_sld hx hb hX hbl hbA Z.2 v2 dL_law_457 ?_
        obtain ⟨r, ν, ξ, e9, e10, gG⟩ := q_join k μ hk5 gG (xs (x3 + (1 : Int32)).toNatClampNeg) (xs (x3 + (2 : Int32)).toNatClampNeg) 
        refine dw_cVi C0 Z hA (dw_lt dw_kc0 (by decide)) (dw_cz9 dw_kc0) rfl (As := [.int (xs (x3 + (1 : Int32)).toNatClampNeg), .int (xs (x3 + (2 : Int32)).toNatClampNeg)]) (rest := []) (kX9_join l Γ hij μ (xs (x3 + (1 : Int32)).toNatClampNeg) (xs (x3 + (2 : Int32)).toNatClampNeg) e9) (dw_gV tw_lL_45 tw_vX9_join tw_eX9_join tw_iX9 tw_kX9_join) dw_hX9_join ⟨Nat.le_of_ble_eq_true rfl, Nat.le_of_ble_eq_true rfl⟩ ⟨by decide, by decide⟩ hl.1 (Nat.le_of_ble_eq_true rfl) rfl dL_law_458 (fun H locs Z => ?_)
        refine lv_aload_n hx hb dL_law_461 rfl (lv_at hl 2 rfl) ?_
        refine lv_aload_n hx hb dL_law_462 rfl (lv_at hl 0 rfl) ?_
        refine lv_iload_n hx hb dL_law_463 rfl (lv_at hl 3 rfl) ?_
        refine lv_iconst (v := (1 : Int32)) hx hb dL_law_464 (by decide) ?_
        refine lv_iadd hx hb dL_law_465 ?_
        refine va_sld hx hb hX hbl hbA Z.2 v1 dL_law_466 ?_
        refine lv_aload_n hx hb dL_law_467 rfl (lv_at hl 0 rfl) ?_
        refine lv_iload_n hx hb dL_law_468 rfl (lv_at hl 3 rfl) ?_
        refine lv_iconst (v := (2 : Int32)) hx hb dL_law_469 (by decide) ?_
        refine lv_iadd hx hb dL_law_470 ?_
        refine va_sld hx hb hX hbl hbA Z.2 v2 dL_law_471 ?_
        refine dw_cVi C0 Z hA (dw_lt dw_kc142 (by decide)) (dw_cz10 dw_kc142) rfl (As := [.int (xs (x3 + (1 : Int32)).toNatClampNeg), .int (xs (x3 + (2 : Int32)).toNatClampNeg)]) (rest := [.int r]) (kX10_join l Γ hij ν (xs (x3 + (1 : Int32)).toNatClampNeg) (xs (x3 + (2 : Int32)).toNatClampNeg) e10) (dw_gV tw_lL_48 tw_vX10_join tw_eX10_join tw_iX10 tw_kX10_join) dw_hX10_join ⟨Nat.le_of_ble_eq_true rfl, Nat.le_of_ble_eq_true rfl⟩ ⟨by decide, by decide⟩ hl.1 (Nat.le_of_ble_eq_true rfl) rfl dL_law_472 (fun H locs Z => ?_)
        refine lv_icmp_eq (tgt := 1025) hx hb dL_law_475 (by decide) (fun _ => ?_) (fun z => absurd rfl z)
        exact NX _ H locs ls gG Z hl
      by_cases c9 : x0 = (8 : Int32)
      · refine lv_tableIn (off := 447) (tgt := 480) hx hb dL_law_33 (by rw [c9]; decide) (by rw [c9]; decide) (by rw [c9]; rfl) (by decide) ?_
        refine lv_aload_n hx hb dL_law_480 rfl (lv_at hl 1 rfl) ?_
        refine lv_aload_n hx hb dL_law_481 rfl (lv_at hl 0 rfl) ?_
        refine lv_iload_n hx hb dL_law_482 rfl (lv_at hl 3 rfl) ?_
        refine lv_iconst (v := (1 : Int32)) hx hb dL_law_483 (by decide) ?_
        refine lv_iadd hx hb dL_law_484 ?_
        refine va_sld hx hb hX hbl hbA Z.2 v1 dL_law_485 ?_
        refine lv_aload_n hx hb dL_law_486 rfl (lv_at hl 0 rfl) ?_
        refine lv_iload_n hx hb dL_law_487 rfl (lv_at hl 3 rfl) ?_
        refine lv_iconst (v := (2 : Int32)) hx hb dL_law_488 (by decide) ?_
        refine lv_iadd hx hb dL_law_489 ?_
        refine va_sld hx hb hX hbl hbA Z.2 v2 dL_law_490 ?_
        obtain ⟨r, ν, ξ, e9, e10, gG⟩ := q_open k μ hk5 gG (xs (x3 + (1 : Int32)).toNatClampNeg) (xs (x3 + (2 : Int32)).toNatClampNeg) 
        refine dw_cVi C0 Z hA (dw_lt dw_kc0 (by decide)) (dw_cz9 dw_kc0) rfl (As := [.int (xs (x3 + (1 : Int32)).toNatClampNeg), .int (xs (x3 + (2 : Int32)).toNatClampNeg)]) (rest := []) (kX9_open l Γ hij μ (xs (x3 + (1 : Int32)).toNatClampNeg) (xs (x3 + (2 : Int32)).toNatClampNeg) e9) (dw_gV tw_lL_49 tw_vX9_open tw_eX9_open tw_iX9 tw_kX9_open) dw_hX9_open ⟨Nat.le_of_ble_eq_true rfl, Nat.le_of_ble_eq_true rfl⟩ ⟨by decide, by decide⟩ hl.1 (Nat.le_of_ble_eq_true rfl) rfl dL_law_491 (fun H locs Z => ?_)
        refine lv_aload_n hx hb dL_law_494 rfl (lv_at hl 2 rfl) ?_
        refine lv_aload_n hx hb dL_law_495 rfl (lv_at hl 0 rfl) ?_
        refine lv_iload_n hx hb dL_law_496 rfl (lv_at hl 3 rfl) ?_
        refine lv_iconst (v := (1 : Int32)) hx hb dL_law_497 (by decide) ?_
        refine lv_iadd hx hb dL_law_498 ?_
        refine va_sld hx hb hX hbl hbA Z.2 v1 dL_law_499 ?_
        refine lv_aload_n hx hb dL_law_500 rfl (lv_at hl 0 rfl) ?_
        refine lv_iload_n hx hb dL_law_501 rfl (lv_at hl 3 rfl) ?_
        refine lv_iconst (v := (2 : Int32)) hx hb dL_law_502 (by decide) ?_
        refine lv_iadd hx hb dL_law_503 ?_
        refine va_sld hx hb hX hbl hbA Z.2 v2 dL_law_504 ?_
        refine dw_cVi C0 Z hA (dw_lt dw_kc142 (by decide)) (dw_cz10 dw_kc142) rfl (As := [.int (xs (x3 + (1 : Int32)).toNatClampNeg), .int (xs (x3 + (2 : Int32)).toNatClampNeg)]) (rest := [.int r]) (kX10_open l Γ hij ν (xs (x3 + (1 : Int32)).toNatClampNeg) (xs (x3 + (2 : Int32)).toNatClampNeg) e10) (dw_gV tw_lL_52 tw_vX10_open tw_eX10_open tw_iX10 tw_kX10_open) dw_hX10_open ⟨Nat.le_of_ble_eq_true rfl, Nat.le_of_ble_eq_true rfl⟩ ⟨by decide, by decide⟩ hl.1 (Nat.le_of_ble_eq_true rfl) rfl dL_law_505 (fun H locs Z => ?_)
        refine lv_icmp_eq (tgt := 1025) hx hb dL_law_508 (by decide) (fun _ => ?_) (fun z => absurd rfl z)
        exact NX _ H locs ls gG Z hl
      by_cases c10 : x0 = (9 : Int32)
      · refine lv_tableIn (off := 480) (tgt := 513) hx hb dL_law_33 (by rw [c10]; decide) (by rw [c10]; decide) (by rw [c10]; rfl) (by decide) ?_
        refine lv_aload_n hx hb dL_law_513 rfl (lv_at hl 1 rfl) ?_
        refine lv_aload_n hx hb dL_law_514 rfl (lv_at hl 0 rfl) ?_
        refine lv_iload_n hx hb dL_law_515 rfl (lv_at hl 3 rfl) ?_
        refine lv_iconst (v := (1 : Int32)) hx hb dL_law_516 (by decide) ?_
        refine lv_iadd hx hb dL_law_517 ?_
        refine va_sld hx hb hX hbl hbA Z.2 v1 dL_law_518 ?_
        obtain ⟨r, ν, ξ, e9, e10, gG⟩ := q_part k μ hk5 gG (xs (x3 + (1 : Int32)).toNatClampNeg) 
        refine dw_cVi C0 Z hA (dw_lt dw_kc0 (by decide)) (dw_cz9 dw_kc0) rfl (As := [.int (xs (x3 + (1 : Int32)).toNatClampNeg)]) (rest := []) (kX9_part l Γ hij μ (xs (x3 + (1 : Int32)).toNatClampNeg) e9) (dw_gV tw_lL_53 tw_vX9_part tw_eX9_part tw_iX9 tw_kX9_part) dw_hX9_part ⟨Nat.le_of_ble_eq_true rfl, Nat.le_of_ble_eq_true rfl⟩ ⟨by decide, by decide⟩ hl.1 (Nat.le_of_ble_eq_true rfl) rfl dL_law_519 (fun H locs Z => ?_)
        refine lv_aload_n hx hb dL_law_522 rfl (lv_at hl 2 rfl) ?_
        refine lv_aload_n hx hb dL_law_523 rfl (lv_at hl 0 rfl) ?_
        refine lv_iload_n hx hb dL_law_524 rfl (lv_at hl 3 rfl) ?_
        refine lv_iconst (v := (1 : Int32)) hx hb dL_law_525 (by decide) ?_
        refine lv_iadd hx hb dL_law_526 ?_
        refine va_sld hx hb hX hbl hbA Z.2 v1 dL_law_527 ?_
        refine dw_cVi C0 Z hA (dw_lt dw_kc142 (by decide)) (dw_cz10 dw_kc142) rfl (As := [.int (xs (x3 + (1 : Int32)).toNatClampNeg)]) (rest := [.int r]) (kX10_part l Γ hij ν (xs (x3 + (1 : Int32)).toNatClampNeg) e10) (dw_gV tw_lL_57 tw_vX10_part tw_eX10_part tw_iX10 tw_kX10_part) dw_hX10_part ⟨Nat.le_of_ble_eq_true rfl, Nat.le_of_ble_eq_true rfl⟩ ⟨by decide, by decide⟩ hl.1 (Nat.le_of_ble_eq_true rfl) rfl dL_law_528 (fun H locs Z => ?_)
        refine lv_icmp_eq (tgt := 1025) hx hb dL_law_531 (by decide) (fun _ => ?_) (fun z => absurd rfl z)
        exact NX _ H locs ls gG Z hl
      by_cases c11 : x0 = (10 : Int32)
      · refine lv_tableIn (off := 503) (tgt := 536) hx hb dL_law_33 (by rw [c11]; decide) (by rw [c11]; decide) (by rw [c11]; rfl) (by decide) ?_
        by_cases cz : xs (x3 + (2 : Int32)).toNatClampNeg = 0
        · skip
          refine lv_aload_n hx hb dL_law_536 rfl (lv_at hl 1 rfl) ?_
          refine lv_aload_n hx hb dL_law_537 rfl (lv_at hl 0 rfl) ?_
          refine lv_iload_n hx hb dL_law_538 rfl (lv_at hl 3 rfl) ?_
          refine lv_iconst (v := (1 : Int32)) hx hb dL_law_539 (by decide) ?_
          refine lv_iadd hx hb dL_law_540 ?_
          refine va_sld hx hb hX hbl hbA Z.2 v1 dL_law_541 ?_
          refine lv_aload_n hx hb dL_law_542 rfl (lv_at hl 0 rfl) ?_
          refine lv_iload_n hx hb dL_law_543 rfl (lv_at hl 3 rfl) ?_
          refine lv_iconst (v := (2 : Int32)) hx hb dL_law_544 (by decide) ?_
          refine lv_iadd hx hb dL_law_545 ?_
          refine va_sld hx hb hX hbl hbA Z.2 v2 dL_law_546 ?_
          refine lv_if_eq (tgt := 554) hx hb dL_law_547 (by decide) (fun _ => ?_) (fun z => absurd cz z)
          refine lv_iconst (v := (0 : Int32)) hx hb dL_law_554 (by decide) ?_
          obtain ⟨r, ν, ξ, e9, e10, gG⟩ := q_block k μ hk5 gG (xs (x3 + (1 : Int32)).toNatClampNeg) (0 : Int32) (Or.inl rfl)
          refine dw_cVi C0 Z hA (dw_lt dw_kc0 (by decide)) (dw_cz9 dw_kc0) rfl (As := [.int (xs (x3 + (1 : Int32)).toNatClampNeg), .int (0 : Int32)]) (rest := []) (kX9_block l Γ hij μ (xs (x3 + (1 : Int32)).toNatClampNeg) (0 : Int32) e9) (dw_gV tw_lL_58 tw_vX9_block tw_eX9_block tw_iX9 tw_kX9_block) dw_hX9_block ⟨Nat.le_of_ble_eq_true rfl, Nat.le_of_ble_eq_true rfl⟩ ⟨by decide, by decide⟩ hl.1 (Nat.le_of_ble_eq_true rfl) rfl dL_law_555 (fun H locs Z => ?_)
          refine lv_aload_n hx hb dL_law_558 rfl (lv_at hl 2 rfl) ?_
          refine lv_aload_n hx hb dL_law_559 rfl (lv_at hl 0 rfl) ?_
          refine lv_iload_n hx hb dL_law_560 rfl (lv_at hl 3 rfl) ?_
          refine lv_iconst (v := (1 : Int32)) hx hb dL_law_561 (by decide) ?_
          refine lv_iadd hx hb dL_law_562 ?_
          refine va_sld hx hb hX hbl hbA Z.2 v1 dL_law_563 ?_
          refine lv_aload_n hx hb dL_law_564 rfl (lv_at hl 0 rfl) ?_
          refine lv_iload_n hx hb dL_law_565 rfl (lv_at hl 3 rfl) ?_
          refine lv_iconst (v := (2 : Int32)) hx hb dL_law_566 (by decide) ?_
          refine lv_iadd hx hb dL_law_567 ?_
          refine va_sld hx hb hX hbl hbA Z.2 v2 dL_law_568 ?_
          refine lv_if_eq (tgt := 576) hx hb dL_law_569 (by decide) (fun _ => ?_) (fun z => absurd cz z)
          refine lv_iconst (v := (0 : Int32)) hx hb dL_law_576 (by decide) ?_
          refine dw_cVi C0 Z hA (dw_lt dw_kc142 (by decide)) (dw_cz10 dw_kc142) rfl (As := [.int (xs (x3 + (1 : Int32)).toNatClampNeg), .int (0 : Int32)]) (rest := [.int r]) (kX10_block l Γ hij ν (xs (x3 + (1 : Int32)).toNatClampNeg) (0 : Int32) e10) (dw_gV tw_lL_62 tw_vX10_block tw_eX10_block tw_iX10 tw_kX10_block) dw_hX10_block ⟨Nat.le_of_ble_eq_true rfl, Nat.le_of_ble_eq_true rfl⟩ ⟨by decide, by decide⟩ hl.1 (Nat.le_of_ble_eq_true rfl) rfl dL_law_577 (fun H locs Z => ?_)
          refine lv_icmp_eq (tgt := 1025) hx hb dL_law_580 (by decide) (fun _ => ?_) (fun z => absurd rfl z)
          exact NX _ H locs ls gG Z hl
        · skip
          refine lv_aload_n hx hb dL_law_536 rfl (lv_at hl 1 rfl) ?_
          refine lv_aload_n hx hb dL_law_537 rfl (lv_at hl 0 rfl) ?_
          refine lv_iload_n hx hb dL_law_538 rfl (lv_at hl 3 rfl) ?_
          refine lv_iconst (v := (1 : Int32)) hx hb dL_law_539 (by decide) ?_
          refine lv_iadd hx hb dL_law_540 ?_
          refine va_sld hx hb hX hbl hbA Z.2 v1 dL_law_541 ?_
          refine lv_aload_n hx hb dL_law_542 rfl (lv_at hl 0 rfl) ?_
          refine lv_iload_n hx hb dL_law_543 rfl (lv_at hl 3 rfl) ?_
          refine lv_iconst (v := (2 : Int32)) hx hb dL_law_544 (by decide) ?_
          refine lv_iadd hx hb dL_law_545 ?_
          refine va_sld hx hb hX hbl hbA Z.2 v2 dL_law_546 ?_
          refine lv_if_eq (tgt := 554) hx hb dL_law_547 (by decide) (fun z => absurd z cz) (fun _ => ?_)
          refine lv_iconst (v := (1 : Int32)) hx hb dL_law_550 (by decide) ?_
          refine lv_goto (tgt := 555) hx hb dL_law_551 (by decide) ?_
          obtain ⟨r, ν, ξ, e9, e10, gG⟩ := q_block k μ hk5 gG (xs (x3 + (1 : Int32)).toNatClampNeg) (1 : Int32) (Or.inr rfl)
          refine dw_cVi C0 Z hA (dw_lt dw_kc0 (by decide)) (dw_cz9 dw_kc0) rfl (As := [.int (xs (x3 + (1 : Int32)).toNatClampNeg), .int (1 : Int32)]) (rest := []) (kX9_block l Γ hij μ (xs (x3 + (1 : Int32)).toNatClampNeg) (1 : Int32) e9) (dw_gV tw_lL_58 tw_vX9_block tw_eX9_block tw_iX9 tw_kX9_block) dw_hX9_block ⟨Nat.le_of_ble_eq_true rfl, Nat.le_of_ble_eq_true rfl⟩ ⟨by decide, by decide⟩ hl.1 (Nat.le_of_ble_eq_true rfl) rfl dL_law_555 (fun H locs Z => ?_)
          refine lv_aload_n hx hb dL_law_558 rfl (lv_at hl 2 rfl) ?_
          refine lv_aload_n hx hb dL_law_559 rfl (lv_at hl 0 rfl) ?_
          refine lv_iload_n hx hb dL_law_560 rfl (lv_at hl 3 rfl) ?_
          refine lv_iconst (v := (1 : Int32)) hx hb dL_law_561 (by decide) ?_
          refine lv_iadd hx hb dL_law_562 ?_
          refine va_sld hx hb hX hbl hbA Z.2 v1 dL_law_563 ?_
          refine lv_aload_n hx hb dL_law_564 rfl (lv_at hl 0 rfl) ?_
          refine lv_iload_n hx hb dL_law_565 rfl (lv_at hl 3 rfl) ?_
          refine lv_iconst (v := (2 : Int32)) hx hb dL_law_566 (by decide) ?_
          refine lv_iadd hx hb dL_law_567 ?_
          refine va_sld hx hb hX hbl hbA Z.2 v2 dL_law_568 ?_
          refine lv_if_eq (tgt := 576) hx hb dL_law_569 (by decide) (fun z => absurd z cz) (fun _ => ?_)
          refine lv_iconst (v := (1 : Int32)) hx hb dL_law_572 (by decide) ?_
          refine lv_goto (tgt := 577) hx hb dL_law_573 (by decide) ?_
          refine dw_cVi C0 Z hA (dw_lt dw_kc142 (by decide)) (dw_cz10 dw_kc142) rfl (As := [.int (xs (x3 + (1 : Int32)).toNatClampNeg), .int (1 : Int32)]) (rest := [.int r]) (kX10_block l Γ hij ν (xs (x3 + (1 : Int32)).toNatClampNeg) (1 : Int32) e10) (dw_gV tw_lL_62 tw_vX10_block tw_eX10_block tw_iX10 tw_kX10_block) dw_hX10_block ⟨Nat.le_of_ble_eq_true rfl, Nat.le_of_ble_eq_true rfl⟩ ⟨by decide, by decide⟩ hl.1 (Nat.le_of_ble_eq_true rfl) rfl dL_law_577 (fun H locs Z => ?_)
          refine lv_icmp_eq (tgt := 1025) hx hb dL_law_580 (by decide) (fun _ => ?_) (fun z => absurd rfl z)
          exact NX _ H locs ls gG Z hl
      by_cases c12 : x0 = (11 : Int32)
      · refine lv_tableIn (off := 552) (tgt := 585) hx hb dL_law_33 (by rw [c12]; decide) (by rw [c12]; decide) (by rw [c12]; rfl) (by decide) ?_
        refine lv_aload_n hx hb dL_law_585 rfl (lv_at hl 1 rfl) ?_
        refine lv_aload_n hx hb dL_law_586 rfl (lv_at hl 0 rfl) ?_
        refine lv_iload_n hx hb dL_law_587 rfl (lv_at hl 3 rfl) ?_
        refine lv_iconst (v := (1 : Int32)) hx hb dL_law_588 (by decide) ?_
        refine lv_iadd hx hb dL_law_589 ?_
        refine va_sld hx hb hX hbl hbA Z.2 v1 dL_law_590 ?_
        refine lv_aload_n hx hb dL_law_591 rfl (lv_at hl 0 rfl) ?_
        refine lv_iload_n hx hb dL_law_592 rfl (lv_at hl 3 rfl) ?_
        refine lv_iconst (v := (2 : Int32)) hx hb dL_law_593 (by decide) ?_
        refine lv_iadd hx hb dL_law_594 ?_
        refine va_sld hx hb hX hbl hbA Z.2 v2 dL_law_595 ?_
        obtain ⟨r, e9, e10, gG⟩ := q_of k μ hk5 gG (xs (x3 + (1 : Int32)).toNatClampNeg) (xs (x3 + (2 : Int32)).toNatClampNeg) 
        refine dw_cVi C0 Z hA (dw_lt dw_kc0 (by decide)) (dw_cz9 dw_kc0) rfl (As := [.int (xs (x3 + (1 : Int32)).toNatClampNeg), .int (xs (x3 + (2 : Int32)).toNatClampNeg)]) (rest := []) (kX9_of l Γ hij μ (xs (x3 + (1 : Int32)).toNatClampNeg) (xs (x3 + (2 : Int32)).toNatClampNeg) e9) (dw_gV tw_lL_63 tw_vX9_of tw_eX9_of tw_iX9 tw_kX9_of) dw_hX9_of ⟨Nat.le_of_ble_eq_true rfl, Nat.le_of_ble_eq_true rfl⟩ ⟨by decide, by decide⟩ hl.1 (Nat.le_of_ble_eq_true rfl) rfl dL_law_596 (fun H locs Z => ?_)
        refine lv_aload_n hx hb dL_law_599 rfl (lv_at hl 2 rfl) ?_
        refine lv_aload_n hx hb dL_law_600 rfl (lv_at hl 0 rfl) ?_
        refine lv_iload_n hx hb dL_law_601 rfl (lv_at hl 3 rfl) ?_
        refine lv_iconst (v := (1 : Int32)) hx hb dL_law_602 (by decide) ?_
        refine lv_iadd hx hb dL_law_603 ?_
        refine va_sld hx hb hX hbl hbA Z.2 v1 dL_law_604 ?_
        refine lv_aload_n hx hb dL_law_605 rfl (lv_at hl 0 rfl) ?_
        refine lv_iload_n hx hb dL_law_606 rfl (lv_at hl 3 rfl) ?_
        refine lv_iconst (v := (2 : Int32)) hx hb dL_law_607 (by decide) ?_
        refine lv_iadd hx hb dL_law_608 ?_
        refine va_sld hx hb hX hbl hbA Z.2 v2 dL_law_609 ?_
        refine dw_cVi C0 Z hA (dw_lt dw_kc142 (by decide)) (dw_cz10 dw_kc142) rfl (As := [.int (xs (x3 + (1 : Int32)).toNatClampNeg), .int (xs (x3 + (2 : Int32)).toNatClampNeg)]) (rest := [.int r]) (kX10_of l Γ hij μ (xs (x3 + (1 : Int32)).toNatClampNeg) (xs (x3 + (2 : Int32)).toNatClampNeg) e10) (dw_gV tw_lL_66 tw_vX10_of tw_eX10_of tw_iX10 tw_kX10_of) dw_hX10_of ⟨Nat.le_of_ble_eq_true rfl, Nat.le_of_ble_eq_true rfl⟩ ⟨by decide, by decide⟩ hl.1 (Nat.le_of_ble_eq_true rfl) rfl dL_law_610 (fun H locs Z => ?_)
        refine lv_icmp_eq (tgt := 1025) hx hb dL_law_613 (by decide) (fun _ => ?_) (fun z => absurd rfl z)
        exact NX _ H locs ls gG Z hl
      by_cases c13 : x0 = (12 : Int32)
      · refine lv_tableIn (off := 585) (tgt := 618) hx hb dL_law_33 (by rw [c13]; decide) (by rw [c13]; decide) (by rw [c13]; rfl) (by decide) ?_
        refine lv_aload_n hx hb dL_law_618 rfl (lv_at hl 1 rfl) ?_
        refine lv_aload_n hx hb dL_law_619 rfl (lv_at hl 0 rfl) ?_
        refine lv_iload_n hx hb dL_law_620 rfl (lv_at hl 3 rfl) ?_
        refine lv_iconst (v := (1 : Int32)) hx hb dL_law_621 (by decide) ?_
        refine lv_iadd hx hb dL_law_622 ?_
        refine va_sld hx hb hX hbl hbA Z.2 v1 dL_law_623 ?_
        refine lv_aload_n hx hb dL_law_624 rfl (lv_at hl 0 rfl) ?_
        refine lv_iload_n hx hb dL_law_625 rfl (lv_at hl 3 rfl) ?_
        refine lv_iconst (v := (2 : Int32)) hx hb dL_law_626 (by decide) ?_
        refine lv_iadd hx hb dL_law_627 ?_
        refine va_sld hx hb hX hbl hbA Z.2 v2 dL_law_628 ?_
        refine lv_aload_n hx hb dL_law_629 rfl (lv_at hl 0 rfl) ?_
        refine lv_iload_n hx hb dL_law_630 rfl (lv_at hl 3 rfl) ?_
        refine lv_iconst (v := (3 : Int32)) hx hb dL_law_631 (by decide) ?_
        refine lv_iadd hx hb dL_law_632 ?_
        refine va_sld hx hb hX hbl hbA Z.2 v3 dL_law_633 ?_
        obtain ⟨r, e9, e10, gG⟩ := q_step k μ hk5 gG (xs (x3 + (1 : Int32)).toNatClampNeg) (xs (x3 + (2 : Int32)).toNatClampNeg) (xs (x3 + (3 : Int32)).toNatClampNeg) 
        refine dw_cVi C0 Z hA (dw_lt dw_kc0 (by decide)) (dw_cz9 dw_kc0) rfl (As := [.int (xs (x3 + (1 : Int32)).toNatClampNeg), .int (xs (x3 + (2 : Int32)).toNatClampNeg), .int (xs (x3 + (3 : Int32)).toNatClampNeg)]) (rest := []) (kX9_step l Γ hij μ (xs (x3 + (1 : Int32)).toNatClampNeg) (xs (x3 + (2 : Int32)).toNatClampNeg) (xs (x3 + (3 : Int32)).toNatClampNeg) e9) (dw_gV tw_lL_67 tw_vX9_step tw_eX9_step tw_iX9 tw_kX9_step) dw_hX9_step ⟨Nat.le_of_ble_eq_true rfl, Nat.le_of_ble_eq_true rfl⟩ ⟨by decide, by decide⟩ hl.1 (Nat.le_of_ble_eq_true rfl) rfl dL_law_634 (fun H locs Z => ?_)
        refine lv_aload_n hx hb dL_law_637 rfl (lv_at hl 2 rfl) ?_
        refine lv_aload_n hx hb dL_law_638 rfl (lv_at hl 0 rfl) ?_
        refine lv_iload_n hx hb dL_law_639 rfl (lv_at hl 3 rfl) ?_
        refine lv_iconst (v := (1 : Int32)) hx hb dL_law_640 (by decide) ?_
        refine lv_iadd hx hb dL_law_641 ?_
        refine va_sld hx hb hX hbl hbA Z.2 v1 dL_law_642 ?_
        refine lv_aload_n hx hb dL_law_643 rfl (lv_at hl 0 rfl) ?_
        refine lv_iload_n hx hb dL_law_644 rfl (lv_at hl 3 rfl) ?_
        refine lv_iconst (v := (2 : Int32)) hx hb dL_law_645 (by decide) ?_
        refine lv_iadd hx hb dL_law_646 ?_
        refine va_sld hx hb hX hbl hbA Z.2 v2 dL_law_647 ?_
        refine lv_aload_n hx hb dL_law_648 rfl (lv_at hl 0 rfl) ?_
        refine lv_iload_n hx hb dL_law_649 rfl (lv_at hl 3 rfl) ?_
        refine lv_iconst (v := (3 : Int32)) hx hb dL_law_650 (by decide) ?_
        refine lv_iadd hx hb dL_law_651 ?_
        refine va_sld hx hb hX hbl hbA Z.2 v3 dL_law_652 ?_
        refine dw_cVi C0 Z hA (dw_lt dw_kc142 (by decide)) (dw_cz10 dw_kc142) rfl (As := [.int (xs (x3 + (1 : Int32)).toNatClampNeg), .int (xs (x3 + (2 : Int32)).toNatClampNeg), .int (xs (x3 + (3 : Int32)).toNatClampNeg)]) (rest := [.int r]) (kX10_step l Γ hij μ (xs (x3 + (1 : Int32)).toNatClampNeg) (xs (x3 + (2 : Int32)).toNatClampNeg) (xs (x3 + (3 : Int32)).toNatClampNeg) e10) (dw_gV tw_lL_70 tw_vX10_step tw_eX10_step tw_iX10 tw_kX10_step) dw_hX10_step ⟨Nat.le_of_ble_eq_true rfl, Nat.le_of_ble_eq_true rfl⟩ ⟨by decide, by decide⟩ hl.1 (Nat.le_of_ble_eq_true rfl) rfl dL_law_653 (fun H locs Z => ?_)
        refine lv_icmp_eq (tgt := 1025) hx hb dL_law_656 (by decide) (fun _ => ?_) (fun z => absurd rfl z)
        exact NX _ H locs ls gG Z hl
      by_cases c14 : x0 = (13 : Int32)
      · refine lv_tableIn (off := 628) (tgt := 661) hx hb dL_law_33 (by rw [c14]; decide) (by rw [c14]; decide) (by rw [c14]; rfl) (by decide) ?_
        refine lv_aload_n hx hb dL_law_661 rfl (lv_at hl 1 rfl) ?_
        refine lv_aload_n hx hb dL_law_662 rfl (lv_at hl 0 rfl) ?_
        refine lv_iload_n hx hb dL_law_663 rfl (lv_at hl 3 rfl) ?_
        refine lv_iconst (v := (1 : Int32)) hx hb dL_law_664 (by decide) ?_
        refine lv_iadd hx hb dL_law_665 ?_
        refine va_sld hx hb hX hbl hbA Z.2 v1 dL_law_666 ?_
        refine lv_aload_n hx hb dL_law_667 rfl (lv_at hl 0 rfl) ?_
        refine lv_iload_n hx hb dL_law_668 rfl (lv_at hl 3 rfl) ?_
        refine lv_iconst (v := (2 : Int32)) hx hb dL_law_669 (by decide) ?_
        refine lv_iadd hx hb dL_law_670 ?_
        refine va_sld hx hb hX hbl hbA Z.2 v2 dL_law_671 ?_
        obtain ⟨r, ν, ξ, e9, e10, gG⟩ := q_rain k μ hk5 gG (xs (x3 + (1 : Int32)).toNatClampNeg) (xs (x3 + (2 : Int32)).toNatClampNeg) 
        refine dw_cVi C0 Z hA (dw_lt dw_kc0 (by decide)) (dw_cz9 dw_kc0) rfl (As := [.int (xs (x3 + (1 : Int32)).toNatClampNeg), .int (xs (x3 + (2 : Int32)).toNatClampNeg)]) (rest := []) (kX9_rain l Γ hij μ (xs (x3 + (1 : Int32)).toNatClampNeg) (xs (x3 + (2 : Int32)).toNatClampNeg) e9) (dw_gV tw_lL_71 tw_vX9_rain tw_eX9_rain tw_iX9 tw_kX9_rain) dw_hX9_rain ⟨Nat.le_of_ble_eq_true rfl, Nat.le_of_ble_eq_true rfl⟩ ⟨by decide, by decide⟩ hl.1 (Nat.le_of_ble_eq_true rfl) rfl dL_law_672 (fun H locs Z => ?_)
        refine lv_aload_n hx hb dL_law_675 rfl (lv_at hl 2 rfl) ?_
        refine lv_aload_n hx hb dL_law_676 rfl (lv_at hl 0 rfl) ?_
        refine lv_iload_n hx hb dL_law_677 rfl (lv_at hl 3 rfl) ?_
        refine lv_iconst (v := (1 : Int32)) hx hb dL_law_678 (by decide) ?_
        refine lv_iadd hx hb dL_law_679 ?_
        refine va_sld hx hb hX hbl hbA Z.2 v1 dL_law_680 ?_
        refine lv_aload_n hx hb dL_law_681 rfl (lv_at hl 0 rfl) ?_
        refine lv_iload_n hx hb dL_law_682 rfl (lv_at hl 3 rfl) ?_
        refine lv_iconst (v := (2 : Int32)) hx hb dL_law_683 (by decide) ?_
        refine lv_iadd hx hb dL_law_684 ?_
        refine va_sld hx hb hX hbl hbA Z.2 v2 dL_law_685 ?_
        refine dw_cVi C0 Z hA (dw_lt dw_kc142 (by decide)) (dw_cz10 dw_kc142) rfl (As := [.int (xs (x3 + (1 : Int32)).toNatClampNeg), .int (xs (x3 + (2 : Int32)).toNatClampNeg)]) (rest := [.int r]) (kX10_rain l Γ hij ν (xs (x3 + (1 : Int32)).toNatClampNeg) (xs (x3 + (2 : Int32)).toNatClampNeg) e10) (dw_gV tw_lL_74 tw_vX10_rain tw_eX10_rain tw_iX10 tw_kX10_rain) dw_hX10_rain ⟨Nat.le_of_ble_eq_true rfl, Nat.le_of_ble_eq_true rfl⟩ ⟨by decide, by decide⟩ hl.1 (Nat.le_of_ble_eq_true rfl) rfl dL_law_686 (fun H locs Z => ?_)
        refine lv_icmp_eq (tgt := 1025) hx hb dL_law_689 (by decide) (fun _ => ?_) (fun z => absurd rfl z)
        exact NX _ H locs ls gG Z hl
      by_cases c15 : x0 = (14 : Int32)
      · refine lv_tableIn (off := 661) (tgt := 694) hx hb dL_law_33 (by rw [c15]; decide) (by rw [c15]; decide) (by rw [c15]; rfl) (by decide) ?_
        refine lv_aload_n hx hb dL_law_694 rfl (lv_at hl 1 rfl) ?_
        refine lv_aload_n hx hb dL_law_695 rfl (lv_at hl 0 rfl) ?_
        refine lv_iload_n hx hb dL_law_696 rfl (lv_at hl 3 rfl) ?_
        refine lv_iconst (v := (1 : Int32)) hx hb dL_law_697 (by decide) ?_
        refine lv_iadd hx hb dL_law_698 ?_
        refine va_sld hx hb hX hbl hbA Z.2 v1 dL_law_699 ?_
        obtain ⟨r, ν, ξ, e9, e10, gG⟩ := q_hours k μ hk5 gG (xs (x3 + (1 : Int32)).toNatClampNeg) 
        refine dw_cVi C0 Z hA (dw_lt dw_kc0 (by decide)) (dw_cz9 dw_kc0) rfl (As := [.int (xs (x3 + (1 : Int32)).toNatClampNeg)]) (rest := []) (kX9_hours l Γ hij μ (xs (x3 + (1 : Int32)).toNatClampNeg) e9) (dw_gV tw_lL_75 tw_vX9_hours tw_eX9_hours tw_iX9 tw_kX9_hours) dw_hX9_hours ⟨Nat.le_of_ble_eq_true rfl, Nat.le_of_ble_eq_true rfl⟩ ⟨by decide, by decide⟩ hl.1 (Nat.le_of_ble_eq_true rfl) rfl dL_law_700 (fun H locs Z => ?_)
        refine lv_aload_n hx hb dL_law_703 rfl (lv_at hl 2 rfl) ?_
        refine lv_aload_n hx hb dL_law_704 rfl (lv_at hl 0 rfl) ?_
        refine lv_iload_n hx hb dL_law_705 rfl (lv_at hl 3 rfl) ?_
        refine lv_iconst (v := (1 : Int32)) hx hb dL_law_706 (by decide) ?_
        refine lv_iadd hx hb dL_law_707 ?_
        refine va_sld hx hb hX hbl hbA Z.2 v1 dL_law_708 ?_
        refine dw_cVi C0 Z hA (dw_lt dw_kc142 (by decide)) (dw_cz10 dw_kc142) rfl (As := [.int (xs (x3 + (1 : Int32)).toNatClampNeg)]) (rest := [.int r]) (kX10_hours l Γ hij ν (xs (x3 + (1 : Int32)).toNatClampNeg) e10) (dw_gV tw_lL_78 tw_vX10_hours tw_eX10_hours tw_iX10 tw_kX10_hours) dw_hX10_hours ⟨Nat.le_of_ble_eq_true rfl, Nat.le_of_ble_eq_true rfl⟩ ⟨by decide, by decide⟩ hl.1 (Nat.le_of_ble_eq_true rfl) rfl dL_law_709 (fun H locs Z => ?_)
        refine lv_icmp_eq (tgt := 1025) hx hb dL_law_712 (by decide) (fun _ => ?_) (fun z => absurd rfl z)
        exact NX _ H locs ls gG Z hl
      by_cases c16 : x0 = (15 : Int32)
      · refine lv_tableIn (off := 684) (tgt := 717) hx hb dL_law_33 (by rw [c16]; decide) (by rw [c16]; decide) (by rw [c16]; rfl) (by decide) ?_
        refine lv_aload_n hx hb dL_law_717 rfl (lv_at hl 1 rfl) ?_
        refine lv_aload_n hx hb dL_law_718 rfl (lv_at hl 0 rfl) ?_
        refine lv_iload_n hx hb dL_law_719 rfl (lv_at hl 3 rfl) ?_
        refine lv_iconst (v := (1 : Int32)) hx hb dL_law_720 (by decide) ?_
        refine lv_iadd hx hb dL_law_721 ?_
        refine va_sld hx hb hX hbl hbA Z.2 v1 dL_law_722 ?_
        refine lv_aload_n hx hb dL_law_723 rfl (lv_at hl 0 rfl) ?_
        refine lv_iload_n hx hb dL_law_724 rfl (lv_at hl 3 rfl) ?_
        refine lv_iconst (v := (2 : Int32)) hx hb dL_law_725 (by decide) ?_
        refine lv_iadd hx hb dL_law_726 ?_
        refine va_sld hx hb hX hbl hbA Z.2 v2 dL_law_727 ?_
        obtain ⟨r, e9, e10, gG⟩ := q_at k μ hk5 gG (xs (x3 + (1 : Int32)).toNatClampNeg) (xs (x3 + (2 : Int32)).toNatClampNeg) 
        refine dw_cVi C0 Z hA (dw_lt dw_kc0 (by decide)) (dw_cz9 dw_kc0) rfl (As := [.int (xs (x3 + (1 : Int32)).toNatClampNeg), .int (xs (x3 + (2 : Int32)).toNatClampNeg)]) (rest := []) (kX9_at l Γ hij μ (xs (x3 + (1 : Int32)).toNatClampNeg) (xs (x3 + (2 : Int32)).toNatClampNeg) e9) (dw_gV tw_lL_79 tw_vX9_at tw_eX9_at tw_iX9 tw_kX9_at) dw_hX9_at ⟨Nat.le_of_ble_eq_true rfl, Nat.le_of_ble_eq_true rfl⟩ ⟨by decide, by decide⟩ hl.1 (Nat.le_of_ble_eq_true rfl) rfl dL_law_728 (fun H locs Z => ?_)
        refine lv_aload_n hx hb dL_law_731 rfl (lv_at hl 2 rfl) ?_
        refine lv_aload_n hx hb dL_law_732 rfl (lv_at hl 0 rfl) ?_
        refine lv_iload_n hx hb dL_law_733 rfl (lv_at hl 3 rfl) ?_
        refine lv_iconst (v := (1 : Int32)) hx hb dL_law_734 (by decide) ?_
        refine lv_iadd hx hb dL_law_735 ?_
        refine va_sld hx hb hX hbl hbA Z.2 v1 dL_law_736 ?_
        refine lv_aload_n hx hb dL_law_737 rfl (lv_at hl 0 rfl) ?_
        refine lv_iload_n hx hb dL_law_738 rfl (lv_at hl 3 rfl) ?_
        refine lv_iconst (v := (2 : Int32)) hx hb dL_law_739 (by decide) ?_
        refine lv_iadd hx hb dL_law_740 ?_
        refine va_sld hx hb hX hbl hbA Z.2 v2 dL_law_741 ?_
        refine dw_cVi C0 Z hA (dw_lt dw_kc142 (by decide)) (dw_cz10 dw_kc142) rfl (As := [.int (xs (x3 + (1 : Int32)).toNatClampNeg), .int (xs (x3 + (2 : Int32)).toNatClampNeg)]) (rest := [.int r]) (kX10_at l Γ hij μ (xs (x3 + (1 : Int32)).toNatClampNeg) (xs (x3 + (2 : Int32)).toNatClampNeg) e10) (dw_gV tw_lL_82 tw_vX10_at tw_eX10_at tw_iX10 tw_kX10_at) dw_hX10_at ⟨Nat.le_of_ble_eq_true rfl, Nat.le_of_ble_eq_true rfl⟩ ⟨by decide, by decide⟩ hl.1 (Nat.le_of_ble_eq_true rfl) rfl dL_law_742 (fun H locs Z => ?_)
        refine lv_icmp_eq (tgt := 1025) hx hb dL_law_745 (by decide) (fun _ => ?_) (fun z => absurd rfl z)
        exact NX _ H locs ls gG Z hl
      by_cases c17 : x0 = (16 : Int32)
      · refine lv_tableIn (off := 717) (tgt := 750) hx hb dL_law_33 (by rw [c17]; decide) (by rw [c17]; decide) (by rw [c17]; rfl) (by decide) ?_
        refine lv_aload_n hx hb dL_law_750 rfl (lv_at hl 1 rfl) ?_
        refine lv_aload_n hx hb dL_law_751 rfl (lv_at hl 0 rfl) ?_
        refine lv_iload_n hx hb dL_law_752 rfl (lv_at hl 3 rfl) ?_
        refine lv_iconst (v := (1 : Int32)) hx hb dL_law_753 (by decide) ?_
        refine lv_iadd hx hb dL_law_754 ?_
        refine va_sld hx hb hX hbl hbA Z.2 v1 dL_law_755 ?_
        obtain ⟨r, e9, e10, gG⟩ := q_all k μ hk5 gG (xs (x3 + (1 : Int32)).toNatClampNeg) 
        refine dw_cVi C0 Z hA (dw_lt dw_kc0 (by decide)) (dw_cz9 dw_kc0) rfl (As := [.int (xs (x3 + (1 : Int32)).toNatClampNeg)]) (rest := []) (kX9_all l Γ hij μ (xs (x3 + (1 : Int32)).toNatClampNeg) e9) (dw_gV tw_lL_83 tw_vX9_all tw_eX9_all tw_iX9 tw_kX9_all) dw_hX9_all ⟨Nat.le_of_ble_eq_true rfl, Nat.le_of_ble_eq_true rfl⟩ ⟨by decide, by decide⟩ hl.1 (Nat.le_of_ble_eq_true rfl) rfl dL_law_756 (fun H locs Z => ?_)
        refine lv_aload_n hx hb dL_law_759 rfl (lv_at hl 2 rfl) ?_
        refine lv_aload_n hx hb dL_law_760 rfl (lv_at hl 0 rfl) ?_
        refine lv_iload_n hx hb dL_law_761 rfl (lv_at hl 3 rfl) ?_
        refine lv_iconst (v := (1 : Int32)) hx hb dL_law_762 (by decide) ?_
        refine lv_iadd hx hb dL_law_763 ?_
        refine va_sld hx hb hX hbl hbA Z.2 v1 dL_law_764 ?_
        refine dw_cVi C0 Z hA (dw_lt dw_kc142 (by decide)) (dw_cz10 dw_kc142) rfl (As := [.int (xs (x3 + (1 : Int32)).toNatClampNeg)]) (rest := [.int r]) (kX10_all l Γ hij μ (xs (x3 + (1 : Int32)).toNatClampNeg) e10) (dw_gV tw_lL_86 tw_vX10_all tw_eX10_all tw_iX10 tw_kX10_all) dw_hX10_all ⟨Nat.le_of_ble_eq_true rfl, Nat.le_of_ble_eq_true rfl⟩ ⟨by decide, by decide⟩ hl.1 (Nat.le_of_ble_eq_true rfl) rfl dL_law_765 (fun H locs Z => ?_)
        refine lv_icmp_eq (tgt := 1025) hx hb dL_law_768 (by decide) (fun _ => ?_) (fun z => absurd rfl z)
        exact NX _ H locs ls gG Z hl
      by_cases c18 : x0 = (17 : Int32)
      · refine lv_tableIn (off := 740) (tgt := 773) hx hb dL_law_33 (by rw [c18]; decide) (by rw [c18]; decide) (by rw [c18]; rfl) (by decide) ?_
        refine lv_aload_n hx hb dL_law_773 rfl (lv_at hl 1 rfl) ?_
        refine lv_aload_n hx hb dL_law_774 rfl (lv_at hl 0 rfl) ?_
        refine lv_iload_n hx hb dL_law_775 rfl (lv_at hl 3 rfl) ?_
        refine lv_iconst (v := (1 : Int32)) hx hb dL_law_776 (by decide) ?_
        refine lv_iadd hx hb dL_law_777 ?_
        refine va_sld hx hb hX hbl hbA Z.2 v1 dL_law_778 ?_
        obtain ⟨r, e9, e10, gG⟩ := q_many k μ hk5 gG (xs (x3 + (1 : Int32)).toNatClampNeg) 
        refine dw_cVi C0 Z hA (dw_lt dw_kc0 (by decide)) (dw_cz9 dw_kc0) rfl (As := [.int (xs (x3 + (1 : Int32)).toNatClampNeg)]) (rest := []) (kX9_many l Γ hij μ (xs (x3 + (1 : Int32)).toNatClampNeg) e9) (dw_gV tw_lL_87 tw_vX9_many tw_eX9_many tw_iX9 tw_kX9_many) dw_hX9_many ⟨Nat.le_of_ble_eq_true rfl, Nat.le_of_ble_eq_true rfl⟩ ⟨by decide, by decide⟩ hl.1 (Nat.le_of_ble_eq_true rfl) rfl dL_law_779 (fun H locs Z => ?_)
        refine lv_aload_n hx hb dL_law_782 rfl (lv_at hl 2 rfl) ?_
        refine lv_aload_n hx hb dL_law_783 rfl (lv_at hl 0 rfl) ?_
        refine lv_iload_n hx hb dL_law_784 rfl (lv_at hl 3 rfl) ?_
        refine lv_iconst (v := (1 : Int32)) hx hb dL_law_785 (by decide) ?_
        refine lv_iadd hx hb dL_law_786 ?_
        refine va_sld hx hb hX hbl hbA Z.2 v1 dL_law_787 ?_
        refine dw_cVi C0 Z hA (dw_lt dw_kc142 (by decide)) (dw_cz10 dw_kc142) rfl (As := [.int (xs (x3 + (1 : Int32)).toNatClampNeg)]) (rest := [.int r]) (kX10_many l Γ hij μ (xs (x3 + (1 : Int32)).toNatClampNeg) e10) (dw_gV tw_lL_90 tw_vX10_many tw_eX10_many tw_iX10 tw_kX10_many) dw_hX10_many ⟨Nat.le_of_ble_eq_true rfl, Nat.le_of_ble_eq_true rfl⟩ ⟨by decide, by decide⟩ hl.1 (Nat.le_of_ble_eq_true rfl) rfl dL_law_788 (fun H locs Z => ?_)
        refine lv_icmp_eq (tgt := 1025) hx hb dL_law_791 (by decide) (fun _ => ?_) (fun z => absurd rfl z)
        exact NX _ H locs ls gG Z hl
      by_cases c19 : x0 = (18 : Int32)
      · refine lv_tableIn (off := 763) (tgt := 796) hx hb dL_law_33 (by rw [c19]; decide) (by rw [c19]; decide) (by rw [c19]; rfl) (by decide) ?_
        refine lv_aload_n hx hb dL_law_796 rfl (lv_at hl 1 rfl) ?_
        refine lv_aload_n hx hb dL_law_797 rfl (lv_at hl 0 rfl) ?_
        refine lv_iload_n hx hb dL_law_798 rfl (lv_at hl 3 rfl) ?_
        refine lv_iconst (v := (1 : Int32)) hx hb dL_law_799 (by decide) ?_
        refine lv_iadd hx hb dL_law_800 ?_
        refine va_sld hx hb hX hbl hbA Z.2 v1 dL_law_801 ?_
        obtain ⟨r, e9, e10, gG⟩ := q_dry k μ hk5 gG (xs (x3 + (1 : Int32)).toNatClampNeg) 
        refine dw_cVi C0 Z hA (dw_lt dw_kc0 (by decide)) (dw_cz9 dw_kc0) rfl (As := [.int (xs (x3 + (1 : Int32)).toNatClampNeg)]) (rest := []) (kX9_dry l Γ hij μ (xs (x3 + (1 : Int32)).toNatClampNeg) e9) (dw_gV tw_lL_91 tw_vX9_dry tw_eX9_dry tw_iX9 tw_kX9_dry) dw_hX9_dry ⟨Nat.le_of_ble_eq_true rfl, Nat.le_of_ble_eq_true rfl⟩ ⟨by decide, by decide⟩ hl.1 (Nat.le_of_ble_eq_true rfl) rfl dL_law_802 (fun H locs Z => ?_)
        refine lv_aload_n hx hb dL_law_805 rfl (lv_at hl 2 rfl) ?_
        refine lv_aload_n hx hb dL_law_806 rfl (lv_at hl 0 rfl) ?_
        refine lv_iload_n hx hb dL_law_807 rfl (lv_at hl 3 rfl) ?_
        refine lv_iconst (v := (1 : Int32)) hx hb dL_law_808 (by decide) ?_
        refine lv_iadd hx hb dL_law_809 ?_
        refine va_sld hx hb hX hbl hbA Z.2 v1 dL_law_810 ?_
        refine dw_cVi C0 Z hA (dw_lt dw_kc142 (by decide)) (dw_cz10 dw_kc142) rfl (As := [.int (xs (x3 + (1 : Int32)).toNatClampNeg)]) (rest := [.int r]) (kX10_dry l Γ hij μ (xs (x3 + (1 : Int32)).toNatClampNeg) e10) (dw_gV tw_lL_94 tw_vX10_dry tw_eX10_dry tw_iX10 tw_kX10_dry) dw_hX10_dry ⟨Nat.le_of_ble_eq_true rfl, Nat.le_of_ble_eq_true rfl⟩ ⟨by decide, by decide⟩ hl.1 (Nat.le_of_ble_eq_true rfl) rfl dL_law_811 (fun H locs Z => ?_)
        refine lv_icmp_eq (tgt := 1025) hx hb dL_law_814 (by decide) (fun _ => ?_) (fun z => absurd rfl z)
        exact NX _ H locs ls gG Z hl
      by_cases c20 : x0 = (19 : Int32)
      · refine lv_tableIn (off := 786) (tgt := 819) hx hb dL_law_33 (by rw [c20]; decide) (by rw [c20]; decide) (by rw [c20]; rfl) (by decide) ?_
        by_cases cz : xs (x3 + (2 : Int32)).toNatClampNeg = 0
        · skip
          refine lv_aload_n hx hb dL_law_819 rfl (lv_at hl 1 rfl) ?_
          refine lv_aload_n hx hb dL_law_820 rfl (lv_at hl 0 rfl) ?_
          refine lv_iload_n hx hb dL_law_821 rfl (lv_at hl 3 rfl) ?_
          refine lv_iconst (v := (1 : Int32)) hx hb dL_law_822 (by decide) ?_
          refine lv_iadd hx hb dL_law_823 ?_
          refine va_sld hx hb hX hbl hbA Z.2 v1 dL_law_824 ?_
          refine lv_aload_n hx hb dL_law_825 rfl (lv_at hl 0 rfl) ?_
          refine lv_iload_n hx hb dL_law_826 rfl (lv_at hl 3 rfl) ?_
          refine lv_iconst (v := (2 : Int32)) hx hb dL_law_827 (by decide) ?_
          refine lv_iadd hx hb dL_law_828 ?_
          refine va_sld hx hb hX hbl hbA Z.2 v2 dL_law_829 ?_
          refine lv_if_eq (tgt := 837) hx hb dL_law_830 (by decide) (fun _ => ?_) (fun z => absurd cz z)
          refine lv_iconst (v := (0 : Int32)) hx hb dL_law_837 (by decide) ?_
          obtain ⟨r, ν, ξ, e9, e10, gG⟩ := q_mark k μ hk5 gG (xs (x3 + (1 : Int32)).toNatClampNeg) (0 : Int32) (Or.inl rfl)
          refine dw_cVi C0 Z hA (dw_lt dw_kc0 (by decide)) (dw_cz9 dw_kc0) rfl (As := [.int (xs (x3 + (1 : Int32)).toNatClampNeg), .int (0 : Int32)]) (rest := []) (kX9_mark l Γ hij μ (xs (x3 + (1 : Int32)).toNatClampNeg) (0 : Int32) e9) (dw_gV tw_lL_95 tw_vX9_mark tw_eX9_mark tw_iX9 tw_kX9_mark) dw_hX9_mark ⟨Nat.le_of_ble_eq_true rfl, Nat.le_of_ble_eq_true rfl⟩ ⟨by decide, by decide⟩ hl.1 (Nat.le_of_ble_eq_true rfl) rfl dL_law_838 (fun H locs Z => ?_)
          refine lv_aload_n hx hb dL_law_841 rfl (lv_at hl 2 rfl) ?_
          refine lv_aload_n hx hb dL_law_842 rfl (lv_at hl 0 rfl) ?_
          refine lv_iload_n hx hb dL_law_843 rfl (lv_at hl 3 rfl) ?_
          refine lv_iconst (v := (1 : Int32)) hx hb dL_law_844 (by decide) ?_
          refine lv_iadd hx hb dL_law_845 ?_
          refine va_sld hx hb hX hbl hbA Z.2 v1 dL_law_846 ?_
          refine lv_aload_n hx hb dL_law_847 rfl (lv_at hl 0 rfl) ?_
          refine lv_iload_n hx hb dL_law_848 rfl (lv_at hl 3 rfl) ?_
          refine lv_iconst (v := (2 : Int32)) hx hb dL_law_849 (by decide) ?_
          refine lv_iadd hx hb dL_law_850 ?_
          refine va_sld hx hb hX hbl hbA Z.2 v2 dL_law_851 ?_
          refine lv_if_eq (tgt := 859) hx hb dL_law_852 (by decide) (fun _ => ?_) (fun z => absurd cz z)
          refine lv_iconst (v := (0 : Int32)) hx hb dL_law_859 (by decide) ?_
          refine dw_cVi C0 Z hA (dw_lt dw_kc142 (by decide)) (dw_cz10 dw_kc142) rfl (As := [.int (xs (x3 + (1 : Int32)).toNatClampNeg), .int (0 : Int32)]) (rest := [.int r]) (kX10_mark l Γ hij ν (xs (x3 + (1 : Int32)).toNatClampNeg) (0 : Int32) e10) (dw_gV tw_lL_98 tw_vX10_mark tw_eX10_mark tw_iX10 tw_kX10_mark) dw_hX10_mark ⟨Nat.le_of_ble_eq_true rfl, Nat.le_of_ble_eq_true rfl⟩ ⟨by decide, by decide⟩ hl.1 (Nat.le_of_ble_eq_true rfl) rfl dL_law_860 (fun H locs Z => ?_)
          refine lv_icmp_eq (tgt := 1025) hx hb dL_law_863 (by decide) (fun _ => ?_) (fun z => absurd rfl z)
          exact NX _ H locs ls gG Z hl
        · skip
          refine lv_aload_n hx hb dL_law_819 rfl (lv_at hl 1 rfl) ?_
          refine lv_aload_n hx hb dL_law_820 rfl (lv_at hl 0 rfl) ?_
          refine lv_iload_n hx hb dL_law_821 rfl (lv_at hl 3 rfl) ?_
          refine lv_iconst (v := (1 : Int32)) hx hb dL_law_822 (by decide) ?_
          refine lv_iadd hx hb dL_law_823 ?_
          refine va_sld hx hb hX hbl hbA Z.2 v1 dL_law_824 ?_
          refine lv_aload_n hx hb dL_law_825 rfl (lv_at hl 0 rfl) ?_
          refine lv_iload_n hx hb dL_law_826 rfl (lv_at hl 3 rfl) ?_
          refine lv_iconst (v := (2 : Int32)) hx hb dL_law_827 (by decide) ?_
          refine lv_iadd hx hb dL_law_828 ?_
          refine va_sld hx hb hX hbl hbA Z.2 v2 dL_law_829 ?_
          refine lv_if_eq (tgt := 837) hx hb dL_law_830 (by decide) (fun z => absurd z cz) (fun _ => ?_)
          refine lv_iconst (v := (1 : Int32)) hx hb dL_law_833 (by decide) ?_
          refine lv_goto (tgt := 838) hx hb dL_law_834 (by decide) ?_
          obtain ⟨r, ν, ξ, e9, e10, gG⟩ := q_mark k μ hk5 gG (xs (x3 + (1 : Int32)).toNatClampNeg) (1 : Int32) (Or.inr rfl)
          refine dw_cVi C0 Z hA (dw_lt dw_kc0 (by decide)) (dw_cz9 dw_kc0) rfl (As := [.int (xs (x3 + (1 : Int32)).toNatClampNeg), .int (1 : Int32)]) (rest := []) (kX9_mark l Γ hij μ (xs (x3 + (1 : Int32)).toNatClampNeg) (1 : Int32) e9) (dw_gV tw_lL_95 tw_vX9_mark tw_eX9_mark tw_iX9 tw_kX9_mark) dw_hX9_mark ⟨Nat.le_of_ble_eq_true rfl, Nat.le_of_ble_eq_true rfl⟩ ⟨by decide, by decide⟩ hl.1 (Nat.le_of_ble_eq_true rfl) rfl dL_law_838 (fun H locs Z => ?_)
          refine lv_aload_n hx hb dL_law_841 rfl (lv_at hl 2 rfl) ?_
          refine lv_aload_n hx hb dL_law_842 rfl (lv_at hl 0 rfl) ?_
          refine lv_iload_n hx hb dL_law_843 rfl (lv_at hl 3 rfl) ?_
          refine lv_iconst (v := (1 : Int32)) hx hb dL_law_844 (by decide) ?_
          refine lv_iadd hx hb dL_law_845 ?_
          refine va_sld hx hb hX hbl hbA Z.2 v1 dL_law_846 ?_
          refine lv_aload_n hx hb dL_law_847 rfl (lv_at hl 0 rfl) ?_
          refine lv_iload_n hx hb dL_law_848 rfl (lv_at hl 3 rfl) ?_
          refine lv_iconst (v := (2 : Int32)) hx hb dL_law_849 (by decide) ?_
          refine lv_iadd hx hb dL_law_850 ?_
          refine va_sld hx hb hX hbl hbA Z.2 v2 dL_law_851 ?_
          refine lv_if_eq (tgt := 859) hx hb dL_law_852 (by decide) (fun z => absurd z cz) (fun _ => ?_)
          refine lv_iconst (v := (1 : Int32)) hx hb dL_law_855 (by decide) ?_
          refine lv_goto (tgt := 860) hx hb dL_law_856 (by decide) ?_
          refine dw_cVi C0 Z hA (dw_lt dw_kc142 (by decide)) (dw_cz10 dw_kc142) rfl (As := [.int (xs (x3 + (1 : Int32)).toNatClampNeg), .int (1 : Int32)]) (rest := [.int r]) (kX10_mark l Γ hij ν (xs (x3 + (1 : Int32)).toNatClampNeg) (1 : Int32) e10) (dw_gV tw_lL_98 tw_vX10_mark tw_eX10_mark tw_iX10 tw_kX10_mark) dw_hX10_mark ⟨Nat.le_of_ble_eq_true rfl, Nat.le_of_ble_eq_true rfl⟩ ⟨by decide, by decide⟩ hl.1 (Nat.le_of_ble_eq_true rfl) rfl dL_law_860 (fun H locs Z => ?_)
          refine lv_icmp_eq (tgt := 1025) hx hb dL_law_863 (by decide) (fun _ => ?_) (fun z => absurd rfl z)
          exact NX _ H locs ls gG Z hl
      by_cases c21 : x0 = (20 : Int32)
      · refine lv_tableIn (off := 835) (tgt := 868) hx hb dL_law_33 (by rw [c21]; decide) (by rw [c21]; decide) (by rw [c21]; rfl) (by decide) ?_
        refine lv_aload_n hx hb dL_law_868 rfl (lv_at hl 1 rfl) ?_
        obtain ⟨r, ν, ξ, e9, e10, gG⟩ := q_tree k μ hk5 gG  
        refine dw_cVi C0 Z hA (dw_lt dw_kc0 (by decide)) (dw_cz9 dw_kc0) rfl (As := []) (rest := []) (kX9_tree l Γ hij μ  e9) (dw_gV tw_lL_99 tw_vX9_tree tw_eX9_tree tw_iX9 tw_kX9_tree) dw_hX9_tree ⟨Nat.le_of_ble_eq_true rfl, Nat.le_of_ble_eq_true rfl⟩ ⟨by decide, by decide⟩ hl.1 (Nat.le_of_ble_eq_true rfl) rfl dL_law_869 (fun H locs Z => ?_)
        refine lv_aload_n hx hb dL_law_872 rfl (lv_at hl 2 rfl) ?_
        refine dw_cVi C0 Z hA (dw_lt dw_kc142 (by decide)) (dw_cz10 dw_kc142) rfl (As := []) (rest := [.int r]) (kX10_tree l Γ hij ν  e10) (dw_gV tw_lL_103 tw_vX10_tree tw_eX10_tree tw_iX10 tw_kX10_tree) dw_hX10_tree ⟨Nat.le_of_ble_eq_true rfl, Nat.le_of_ble_eq_true rfl⟩ ⟨by decide, by decide⟩ hl.1 (Nat.le_of_ble_eq_true rfl) rfl dL_law_873 (fun H locs Z => ?_)
        refine lv_icmp_eq (tgt := 1025) hx hb dL_law_876 (by decide) (fun _ => ?_) (fun z => absurd rfl z)
        exact NX _ H locs ls gG Z hl
      by_cases c22 : x0 = (21 : Int32)
      · refine lv_tableIn (off := 848) (tgt := 881) hx hb dL_law_33 (by rw [c22]; decide) (by rw [c22]; decide) (by rw [c22]; rfl) (by decide) ?_
        refine lv_aload_n hx hb dL_law_881 rfl (lv_at hl 1 rfl) ?_
        refine lv_aload_n hx hb dL_law_882 rfl (lv_at hl 0 rfl) ?_
        refine lv_iload_n hx hb dL_law_883 rfl (lv_at hl 3 rfl) ?_
        refine lv_iconst (v := (1 : Int32)) hx hb dL_law_884 (by decide) ?_
        refine lv_iadd hx hb dL_law_885 ?_
        refine va_sld hx hb hX hbl hbA Z.2 v1 dL_law_886 ?_
        obtain ⟨r, ν, ξ, e9, e10, gG⟩ := q_pair k μ hk5 gG (xs (x3 + (1 : Int32)).toNatClampNeg) 
        refine dw_cVi C0 Z hA (dw_lt dw_kc0 (by decide)) (dw_cz9 dw_kc0) rfl (As := [.int (xs (x3 + (1 : Int32)).toNatClampNeg)]) (rest := []) (kX9_pair l Γ hij μ (xs (x3 + (1 : Int32)).toNatClampNeg) e9) (dw_gV tw_lL_104 tw_vX9_pair tw_eX9_pair tw_iX9 tw_kX9_pair) dw_hX9_pair ⟨Nat.le_of_ble_eq_true rfl, Nat.le_of_ble_eq_true rfl⟩ ⟨by decide, by decide⟩ hl.1 (Nat.le_of_ble_eq_true rfl) rfl dL_law_887 (fun H locs Z => ?_)
        refine lv_aload_n hx hb dL_law_890 rfl (lv_at hl 2 rfl) ?_
        refine lv_aload_n hx hb dL_law_891 rfl (lv_at hl 0 rfl) ?_
        refine lv_iload_n hx hb dL_law_892 rfl (lv_at hl 3 rfl) ?_
        refine lv_iconst (v := (1 : Int32)) hx hb dL_law_893 (by decide) ?_
        refine lv_iadd hx hb dL_law_894 ?_
        refine va_sld hx hb hX hbl hbA Z.2 v1 dL_law_895 ?_
        refine dw_cVi C0 Z hA (dw_lt dw_kc142 (by decide)) (dw_cz10 dw_kc142) rfl (As := [.int (xs (x3 + (1 : Int32)).toNatClampNeg)]) (rest := [.int r]) (kX10_pair l Γ hij ν (xs (x3 + (1 : Int32)).toNatClampNeg) e10) (dw_gV tw_lL_107 tw_vX10_pair tw_eX10_pair tw_iX10 tw_kX10_pair) dw_hX10_pair ⟨Nat.le_of_ble_eq_true rfl, Nat.le_of_ble_eq_true rfl⟩ ⟨by decide, by decide⟩ hl.1 (Nat.le_of_ble_eq_true rfl) rfl dL_law_896 (fun H locs Z => ?_)
        refine lv_icmp_eq (tgt := 1025) hx hb dL_law_899 (by decide) (fun _ => ?_) (fun z => absurd rfl z)
        exact NX _ H locs ls gG Z hl
      by_cases c23 : x0 = (22 : Int32)
      · refine lv_tableIn (off := 871) (tgt := 904) hx hb dL_law_33 (by rw [c23]; decide) (by rw [c23]; decide) (by rw [c23]; rfl) (by decide) ?_
        by_cases cz : xs (x3 + (2 : Int32)).toNatClampNeg = 0
        · skip
          refine lv_aload_n hx hb dL_law_904 rfl (lv_at hl 1 rfl) ?_
          refine lv_aload_n hx hb dL_law_905 rfl (lv_at hl 0 rfl) ?_
          refine lv_iload_n hx hb dL_law_906 rfl (lv_at hl 3 rfl) ?_
          refine lv_iconst (v := (1 : Int32)) hx hb dL_law_907 (by decide) ?_
          refine lv_iadd hx hb dL_law_908 ?_
          refine va_sld hx hb hX hbl hbA Z.2 v1 dL_law_909 ?_
          refine lv_aload_n hx hb dL_law_910 rfl (lv_at hl 0 rfl) ?_
          refine lv_iload_n hx hb dL_law_911 rfl (lv_at hl 3 rfl) ?_
          refine lv_iconst (v := (2 : Int32)) hx hb dL_law_912 (by decide) ?_
          refine lv_iadd hx hb dL_law_913 ?_
          refine va_sld hx hb hX hbl hbA Z.2 v2 dL_law_914 ?_
          refine lv_if_eq (tgt := 922) hx hb dL_law_915 (by decide) (fun _ => ?_) (fun z => absurd cz z)
          refine lv_iconst (v := (0 : Int32)) hx hb dL_law_922 (by decide) ?_
          obtain ⟨r, ν, ξ, e9, e10, gG⟩ := q_sight k μ hk5 gG (xs (x3 + (1 : Int32)).toNatClampNeg) (0 : Int32) (Or.inl rfl)
          refine dw_cVi C0 Z hA (dw_lt dw_kc0 (by decide)) (dw_cz9 dw_kc0) rfl (As := [.int (xs (x3 + (1 : Int32)).toNatClampNeg), .int (0 : Int32)]) (rest := []) (kX9_sight l Γ hij μ (xs (x3 + (1 : Int32)).toNatClampNeg) (0 : Int32) e9) (dw_gV tw_lL_108 tw_vX9_sight tw_eX9_sight tw_iX9 tw_kX9_sight) dw_hX9_sight ⟨Nat.le_of_ble_eq_true rfl, Nat.le_of_ble_eq_true rfl⟩ ⟨by decide, by decide⟩ hl.1 (Nat.le_of_ble_eq_true rfl) rfl dL_law_923 (fun H locs Z => ?_)
          refine lv_aload_n hx hb dL_law_926 rfl (lv_at hl 2 rfl) ?_
          refine lv_aload_n hx hb dL_law_927 rfl (lv_at hl 0 rfl) ?_
          refine lv_iload_n hx hb dL_law_928 rfl (lv_at hl 3 rfl) ?_
          refine lv_iconst (v := (1 : Int32)) hx hb dL_law_929 (by decide) ?_
          refine lv_iadd hx hb dL_law_930 ?_
          refine va_sld hx hb hX hbl hbA Z.2 v1 dL_law_931 ?_
          refine lv_aload_n hx hb dL_law_932 rfl (lv_at hl 0 rfl) ?_
          refine lv_iload_n hx hb dL_law_933 rfl (lv_at hl 3 rfl) ?_
          refine lv_iconst (v := (2 : Int32)) hx hb dL_law_934 (by decide) ?_
          refine lv_iadd hx hb dL_law_935 ?_
          refine va_sld hx hb hX hbl hbA Z.2 v2 dL_law_936 ?_
          refine lv_if_eq (tgt := 944) hx hb dL_law_937 (by decide) (fun _ => ?_) (fun z => absurd cz z)
          refine lv_iconst (v := (0 : Int32)) hx hb dL_law_944 (by decide) ?_
          refine dw_cVi C0 Z hA (dw_lt dw_kc142 (by decide)) (dw_cz10 dw_kc142) rfl (As := [.int (xs (x3 + (1 : Int32)).toNatClampNeg), .int (0 : Int32)]) (rest := [.int r]) (kX10_sight l Γ hij ν (xs (x3 + (1 : Int32)).toNatClampNeg) (0 : Int32) e10) (dw_gV tw_lL_111 tw_vX10_sight tw_eX10_sight tw_iX10 tw_kX10_sight) dw_hX10_sight ⟨Nat.le_of_ble_eq_true rfl, Nat.le_of_ble_eq_true rfl⟩ ⟨by decide, by decide⟩ hl.1 (Nat.le_of_ble_eq_true rfl) rfl dL_law_945 (fun H locs Z => ?_)
          refine lv_icmp_eq (tgt := 1025) hx hb dL_law_948 (by decide) (fun _ => ?_) (fun z => absurd rfl z)
          exact NX _ H locs ls gG Z hl
        · skip
          refine lv_aload_n hx hb dL_law_904 rfl (lv_at hl 1 rfl) ?_
          refine lv_aload_n hx hb dL_law_905 rfl (lv_at hl 0 rfl) ?_
          refine lv_iload_n hx hb dL_law_906 rfl (lv_at hl 3 rfl) ?_
          refine lv_iconst (v := (1 : Int32)) hx hb dL_law_907 (by decide) ?_
          refine lv_iadd hx hb dL_law_908 ?_
          refine va_sld hx hb hX hbl hbA Z.2 v1 dL_law_909 ?_
          refine lv_aload_n hx hb dL_law_910 rfl (lv_at hl 0 rfl) ?_
          refine lv_iload_n hx hb dL_law_911 rfl (lv_at hl 3 rfl) ?_
          refine lv_iconst (v := (2 : Int32)) hx hb dL_law_912 (by decide) ?_
          refine lv_iadd hx hb dL_law_913 ?_
          refine va_sld hx hb hX hbl hbA Z.2 v2 dL_law_914 ?_
          refine lv_if_eq (tgt := 922) hx hb dL_law_915 (by decide) (fun z => absurd z cz) (fun _ => ?_)
          refine lv_iconst (v := (1 : Int32)) hx hb dL_law_918 (by decide) ?_
          refine lv_goto (tgt := 923) hx hb dL_law_919 (by decide) ?_
          obtain ⟨r, ν, ξ, e9, e10, gG⟩ := q_sight k μ hk5 gG (xs (x3 + (1 : Int32)).toNatClampNeg) (1 : Int32) (Or.inr rfl)
          refine dw_cVi C0 Z hA (dw_lt dw_kc0 (by decide)) (dw_cz9 dw_kc0) rfl (As := [.int (xs (x3 + (1 : Int32)).toNatClampNeg), .int (1 : Int32)]) (rest := []) (kX9_sight l Γ hij μ (xs (x3 + (1 : Int32)).toNatClampNeg) (1 : Int32) e9) (dw_gV tw_lL_108 tw_vX9_sight tw_eX9_sight tw_iX9 tw_kX9_sight) dw_hX9_sight ⟨Nat.le_of_ble_eq_true rfl, Nat.le_of_ble_eq_true rfl⟩ ⟨by decide, by decide⟩ hl.1 (Nat.le_of_ble_eq_true rfl) rfl dL_law_923 (fun H locs Z => ?_)
          refine lv_aload_n hx hb dL_law_926 rfl (lv_at hl 2 rfl) ?_
          refine lv_aload_n hx hb dL_law_927 rfl (lv_at hl 0 rfl) ?_
          refine lv_iload_n hx hb dL_law_928 rfl (lv_at hl 3 rfl) ?_
          refine lv_iconst (v := (1 : Int32)) hx hb dL_law_929 (by decide) ?_
          refine lv_iadd hx hb dL_law_930 ?_
          refine va_sld hx hb hX hbl hbA Z.2 v1 dL_law_931 ?_
          refine lv_aload_n hx hb dL_law_932 rfl (lv_at hl 0 rfl) ?_
          refine lv_iload_n hx hb dL_law_933 rfl (lv_at hl 3 rfl) ?_
          refine lv_iconst (v := (2 : Int32)) hx hb dL_law_934 (by decide) ?_
          refine lv_iadd hx hb dL_law_935 ?_
          refine va_sld hx hb hX hbl hbA Z.2 v2 dL_law_936 ?_
          refine lv_if_eq (tgt := 944) hx hb dL_law_937 (by decide) (fun z => absurd z cz) (fun _ => ?_)
          refine lv_iconst (v := (1 : Int32)) hx hb dL_law_940 (by decide) ?_
          refine lv_goto (tgt := 945) hx hb dL_law_941 (by decide) ?_
          refine dw_cVi C0 Z hA (dw_lt dw_kc142 (by decide)) (dw_cz10 dw_kc142) rfl (As := [.int (xs (x3 + (1 : Int32)).toNatClampNeg), .int (1 : Int32)]) (rest := [.int r]) (kX10_sight l Γ hij ν (xs (x3 + (1 : Int32)).toNatClampNeg) (1 : Int32) e10) (dw_gV tw_lL_111 tw_vX10_sight tw_eX10_sight tw_iX10 tw_kX10_sight) dw_hX10_sight ⟨Nat.le_of_ble_eq_true rfl, Nat.le_of_ble_eq_true rfl⟩ ⟨by decide, by decide⟩ hl.1 (Nat.le_of_ble_eq_true rfl) rfl dL_law_945 (fun H locs Z => ?_)
          refine lv_icmp_eq (tgt := 1025) hx hb dL_law_948 (by decide) (fun _ => ?_) (fun z => absurd rfl z)
          exact NX _ H locs ls gG Z hl
      by_cases c24 : x0 = (23 : Int32)
      · refine lv_tableIn (off := 920) (tgt := 953) hx hb dL_law_33 (by rw [c24]; decide) (by rw [c24]; decide) (by rw [c24]; rfl) (by decide) ?_
        refine lv_aload_n hx hb dL_law_953 rfl (lv_at hl 1 rfl) ?_
        obtain ⟨r, ν, ξ, e9, e10, gG⟩ := q_see k μ hk5 gG  
        refine dw_cVi C0 Z hA (dw_lt dw_kc0 (by decide)) (dw_cz9 dw_kc0) rfl (As := []) (rest := []) (kX9_see l Γ hij μ  e9) (dw_gV tw_lL_112 tw_vX9_see tw_eX9_see tw_iX9 tw_kX9_see) dw_hX9_see ⟨Nat.le_of_ble_eq_true rfl, Nat.le_of_ble_eq_true rfl⟩ ⟨by decide, by decide⟩ hl.1 (Nat.le_of_ble_eq_true rfl) rfl dL_law_954 (fun H locs Z => ?_)
        refine lv_aload_n hx hb dL_law_957 rfl (lv_at hl 2 rfl) ?_
        refine dw_cVi C0 Z hA (dw_lt dw_kc142 (by decide)) (dw_cz10 dw_kc142) rfl (As := []) (rest := [.int r]) (kX10_see l Γ hij ν  e10) (dw_gV tw_lL_115 tw_vX10_see tw_eX10_see tw_iX10 tw_kX10_see) dw_hX10_see ⟨Nat.le_of_ble_eq_true rfl, Nat.le_of_ble_eq_true rfl⟩ ⟨by decide, by decide⟩ hl.1 (Nat.le_of_ble_eq_true rfl) rfl dL_law_958 (fun H locs Z => ?_)
        refine lv_icmp_eq (tgt := 1025) hx hb dL_law_961 (by decide) (fun _ => ?_) (fun z => absurd rfl z)
        exact NX _ H locs ls gG Z hl
      by_cases c25 : x0 = (24 : Int32)
      · refine lv_tableIn (off := 933) (tgt := 966) hx hb dL_law_33 (by rw [c25]; decide) (by rw [c25]; decide) (by rw [c25]; rfl) (by decide) ?_
        refine lv_aload_n hx hb dL_law_966 rfl (lv_at hl 1 rfl) ?_
        refine lv_aload_n hx hb dL_law_967 rfl (lv_at hl 0 rfl) ?_
        refine lv_iload_n hx hb dL_law_968 rfl (lv_at hl 3 rfl) ?_
        refine lv_iconst (v := (1 : Int32)) hx hb dL_law_969 (by decide) ?_
        refine lv_iadd hx hb dL_law_970 ?_
        refine va_sld hx hb hX hbl hbA Z.2 v1 dL_law_971 ?_
        refine lv_aload_n hx hb dL_law_972 rfl (lv_at hl 0 rfl) ?_
        refine lv_iload_n hx hb dL_law_973 rfl (lv_at hl 3 rfl) ?_
        refine lv_iconst (v := (2 : Int32)) hx hb dL_law_974 (by decide) ?_
        refine lv_iadd hx hb dL_law_975 ?_
        refine va_sld hx hb hX hbl hbA Z.2 v2 dL_law_976 ?_
        obtain ⟨r, ν, ξ, e9, e10, gG⟩ := q_where k μ hk5 gG (xs (x3 + (1 : Int32)).toNatClampNeg) (xs (x3 + (2 : Int32)).toNatClampNeg) 
        refine dw_cVi C0 Z hA (dw_lt dw_kc0 (by decide)) (dw_cz9 dw_kc0) rfl (As := [.int (xs (x3 + (1 : Int32)).toNatClampNeg), .int (xs (x3 + (2 : Int32)).toNatClampNeg)]) (rest := []) (kX9_where l Γ hij μ (xs (x3 + (1 : Int32)).toNatClampNeg) (xs (x3 + (2 : Int32)).toNatClampNeg) e9) (dw_gV tw_lL_116 tw_vX9_where tw_eX9_where tw_iX9 tw_kX9_where) dw_hX9_where ⟨Nat.le_of_ble_eq_true rfl, Nat.le_of_ble_eq_true rfl⟩ ⟨by decide, by decide⟩ hl.1 (Nat.le_of_ble_eq_true rfl) rfl dL_law_977 (fun H locs Z => ?_)
        refine lv_aload_n hx hb dL_law_980 rfl (lv_at hl 2 rfl) ?_
        refine lv_aload_n hx hb dL_law_981 rfl (lv_at hl 0 rfl) ?_
        refine lv_iload_n hx hb dL_law_982 rfl (lv_at hl 3 rfl) ?_
        refine lv_iconst (v := (1 : Int32)) hx hb dL_law_983 (by decide) ?_
        refine lv_iadd hx hb dL_law_984 ?_
        refine va_sld hx hb hX hbl hbA Z.2 v1 dL_law_985 ?_
        refine lv_aload_n hx hb dL_law_986 rfl (lv_at hl 0 rfl) ?_
        refine lv_iload_n hx hb dL_law_987 rfl (lv_at hl 3 rfl) ?_
        refine lv_iconst (v := (2 : Int32)) hx hb dL_law_988 (by decide) ?_
        refine lv_iadd hx hb dL_law_989 ?_
        refine va_sld hx hb hX hbl hbA Z.2 v2 dL_law_990 ?_
        refine dw_cVi C0 Z hA (dw_lt dw_kc142 (by decide)) (dw_cz10 dw_kc142) rfl (As := [.int (xs (x3 + (1 : Int32)).toNatClampNeg), .int (xs (x3 + (2 : Int32)).toNatClampNeg)]) (rest := [.int r]) (kX10_where l Γ hij ν (xs (x3 + (1 : Int32)).toNatClampNeg) (xs (x3 + (2 : Int32)).toNatClampNeg) e10) (dw_gV tw_lL_119 tw_vX10_where tw_eX10_where tw_iX10 tw_kX10_where) dw_hX10_where ⟨Nat.le_of_ble_eq_true rfl, Nat.le_of_ble_eq_true rfl⟩ ⟨by decide, by decide⟩ hl.1 (Nat.le_of_ble_eq_true rfl) rfl dL_law_991 (fun H locs Z => ?_)
        refine lv_icmp_eq (tgt := 1025) hx hb dL_law_994 (by decide) (fun _ => ?_) (fun z => absurd rfl z)
        exact NX _ H locs ls gG Z hl
      by_cases c26 : x0 = (25 : Int32)
      · refine lv_tableIn (off := 966) (tgt := 999) hx hb dL_law_33 (by rw [c26]; decide) (by rw [c26]; decide) (by rw [c26]; rfl) (by decide) ?_
        refine lv_aload_n hx hb dL_law_999 rfl (lv_at hl 1 rfl) ?_
        obtain ⟨r, ν, ξ, e9, e10, gG⟩ := q_keep k μ hk5 gG  
        refine dw_cVi C0 Z hA (dw_lt dw_kc0 (by decide)) (dw_cz9 dw_kc0) rfl (As := []) (rest := []) (kX9_keep l Γ hij μ  e9) (dw_gV tw_lL_120 tw_vX9_keep tw_eX9_keep tw_iX9 tw_kX9_keep) dw_hX9_keep ⟨Nat.le_of_ble_eq_true rfl, Nat.le_of_ble_eq_true rfl⟩ ⟨by decide, by decide⟩ hl.1 (Nat.le_of_ble_eq_true rfl) rfl dL_law_1000 (fun H locs Z => ?_)
        refine lv_aload_n hx hb dL_law_1003 rfl (lv_at hl 2 rfl) ?_
        refine dw_cVi C0 Z hA (dw_lt dw_kc142 (by decide)) (dw_cz10 dw_kc142) rfl (As := []) (rest := [.int r]) (kX10_keep l Γ hij ν  e10) (dw_gV tw_lL_123 tw_vX10_keep tw_eX10_keep tw_iX10 tw_kX10_keep) dw_hX10_keep ⟨Nat.le_of_ble_eq_true rfl, Nat.le_of_ble_eq_true rfl⟩ ⟨by decide, by decide⟩ hl.1 (Nat.le_of_ble_eq_true rfl) rfl dL_law_1004 (fun H locs Z => ?_)
        refine lv_icmp_eq (tgt := 1025) hx hb dL_law_1007 (by decide) (fun _ => ?_) (fun z => absurd rfl z)
        exact NX _ H locs ls gG Z hl
      by_cases c27 : x0 = (26 : Int32)
      · refine lv_tableIn (off := 979) (tgt := 1012) hx hb dL_law_33 (by rw [c27]; decide) (by rw [c27]; decide) (by rw [c27]; rfl) (by decide) ?_
        refine lv_aload_n hx hb dL_law_1012 rfl (lv_at hl 1 rfl) ?_
        obtain ⟨r, ν, ξ, e9, e10, gG⟩ := q_back k μ hk5 gG  
        refine dw_cVi C0 Z hA (dw_lt dw_kc0 (by decide)) (dw_cz9 dw_kc0) rfl (As := []) (rest := []) (kX9_back l Γ hij μ  e9) (dw_gV tw_lL_124 tw_vX9_back tw_eX9_back tw_iX9 tw_kX9_back) dw_hX9_back ⟨Nat.le_of_ble_eq_true rfl, Nat.le_of_ble_eq_true rfl⟩ ⟨by decide, by decide⟩ hl.1 (Nat.le_of_ble_eq_true rfl) rfl dL_law_1013 (fun H locs Z => ?_)
        refine lv_aload_n hx hb dL_law_1016 rfl (lv_at hl 2 rfl) ?_
        refine dw_cVi C0 Z hA (dw_lt dw_kc142 (by decide)) (dw_cz10 dw_kc142) rfl (As := []) (rest := [.int r]) (kX10_back l Γ hij ν  e10) (dw_gV tw_lL_127 tw_vX10_back tw_eX10_back tw_iX10 tw_kX10_back) dw_hX10_back ⟨Nat.le_of_ble_eq_true rfl, Nat.le_of_ble_eq_true rfl⟩ ⟨by decide, by decide⟩ hl.1 (Nat.le_of_ble_eq_true rfl) rfl dL_law_1017 (fun H locs Z => ?_)
        refine lv_icmp_eq (tgt := 1025) hx hb dL_law_1020 (by decide) (fun _ => ?_) (fun z => absurd rfl z)
        exact NX _ H locs ls gG Z hl
      have t1 := dw_ti c1 (k := 0) (by decide)
      have t2 := dw_ti c2 (k := 1) (by decide)
      have t3 := dw_ti c3 (k := 2) (by decide)
      have t4 := dw_ti c4 (k := 3) (by decide)
      have t5 := dw_ti c5 (k := 4) (by decide)
      have t6 := dw_ti c6 (k := 5) (by decide)
      have t7 := dw_ti c7 (k := 6) (by decide)
      have t8 := dw_ti c8 (k := 7) (by decide)
      have t9 := dw_ti c9 (k := 8) (by decide)
      have t10 := dw_ti c10 (k := 9) (by decide)
      have t11 := dw_ti c11 (k := 10) (by decide)
      have t12 := dw_ti c12 (k := 11) (by decide)
      have t13 := dw_ti c13 (k := 12) (by decide)
      have t14 := dw_ti c14 (k := 13) (by decide)
      have t15 := dw_ti c15 (k := 14) (by decide)
      have t16 := dw_ti c16 (k := 15) (by decide)
      have t17 := dw_ti c17 (k := 16) (by decide)
      have t18 := dw_ti c18 (k := 17) (by decide)
      have t19 := dw_ti c19 (k := 18) (by decide)
      have t20 := dw_ti c20 (k := 19) (by decide)
      have t21 := dw_ti c21 (k := 20) (by decide)
      have t22 := dw_ti c22 (k := 21) (by decide)
      have t23 := dw_ti c23 (k := 22) (by decide)
      have t24 := dw_ti c24 (k := 23) (by decide)
      have t25 := dw_ti c25 (k := 24) (by decide)
      have t26 := dw_ti c26 (k := 25) (by decide)
      have t27 := dw_ti c27 (k := 26) (by decide)
      refine lv_tableOut (tgt := 1025) hx hb dL_law_33 (by omega) (by decide) ?_
      exact NX μ H locs ls (hmono k μ hk5 gG) Z hl
