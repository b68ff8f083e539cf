/-! rows over the fixed world -/
def dw_tys (Γ : dw_G) : List (ClassId × FieldType) := [(Γ.2.1, .int), (Γ.2.2.1, .object RX5)]
def dw_K (Γ : dw_G) (U : State) : Prop := va_K Γ.1 vwCl (dw_tys Γ) U ∧ ∀ q ∈ dw_nest, va_Nw (.methodLinkNest q.1 q.2.1 q.2.2.1 q.2.2.2) U
theorem dw_K.warm {Γ : dw_G} {s U : State} (hW : s.WarmedH U.vm) (h : dw_K Γ s) : dw_K Γ U := ⟨va_K.moved hW.alike h.1, fun q hq => va_Nw.warmM hW (h.2 q hq)⟩
theorem dw_K.calling {Γ : dw_G} {U : State} {g : JFrame} {mk : MethodId} {a : Array Value} (h : dw_K Γ U) : dw_K Γ (U.calling g mk a) := ⟨va_K.moved (u := U) (U := U.calling g mk a) (Vm.Alike.refl U.vm) h.1, fun q hq => va_Nw.same rfl (u := U) (U := U.calling g mk a) rfl (h.2 q hq)⟩
/-- what is fixed in a method's body -/
def dw_C (Γ : dw_G) (p : Program) (s : State) (m : MethodId) (args : Array Value) (meth : Method) (c : Code) (cc : ByteArray) (nL : Nat) (own : String) : Prop :=
  p.tables.exec = Jvm.exec ∧ c.code = cc ∧ c.maxLocals = nL ∧ s.vm.findClass own = some m.cls ∧ (∀ w ∈ dw_TB, w.before args s = true) ∧ dw_K Γ s ∧ dw_inj Γ
/-- what changes: the heap holds the memory, nothing else has changed -/
def dw_Z (Γ : dw_G) (A : Nat → Prop) (H0 : Heap) (μ : dw_M) (H : Heap) (locs : List Loc) : Prop := va_P Γ.1 vwCl (dw_wl Γ μ) H ∧ va_S A H0 H locs
def dw_P (Γ : dw_G) (av : List Value) (μ : dw_M) : Array Value → State → Prop := va_Pc av (fun U => va_P Γ.1 vwCl (dw_wl Γ μ) U.heap ∧ dw_K Γ U)
def dw_Qi (Γ : dw_G) (r : Int32) (μ : dw_M) : Array Value → State → Outcome → State → Prop := va_Qi (fun (x : Int32) (_ : Unit) => x = r) (fun _ t => va_P Γ.1 vwCl (dw_wl Γ μ) t.heap) (dw_A Γ)
def dw_Qv (Γ : dw_G) (μ : dw_M) : Array Value → State → Outcome → State → Prop := va_Qv (fun _ : Unit => True) (fun _ t => va_P Γ.1 vwCl (dw_wl Γ μ) t.heap) (dw_A Γ)
abbrev dw_rm (fr lo : Nat) : Room := { frames := fr, cells := 0, slots := 0, locals := lo }
theorem dw_P.blind {Γ : dw_G} {av : List Value} {μ : dw_M} : FrameBlind (dw_P Γ av μ) := fun a U g mk q => ⟨q.1, q.2.1, q.2.2.calling⟩
section DWA
variable {p : Program} {l : Launch} {e : Env} {R : Room} {s : State} {m : MethodId} {args : Array Value} {below : List Frame} {meth : Method} {c : Code} {H : Heap} {locs : List Loc} {cells slots : Nat} {Q : State → Prop}
variable {cc : ByteArray} {pc nL : Nat} {ls : Array Slot} {rest : List Value} {Γ : dw_G} {A : Nat → Prop} {H0 : Heap} {μ : dw_M} {own : String}
/-- the body of a method -/
theorem dw_met {y : MethodName} {ret : Option FieldType} {fr lo : Nat} {av : List Value} {Qc : Array Value → State → Outcome → State → Prop} (hy : plainName y.cls = true) (ho : y.cls = own) (hn : (lg_sl av).length ≤ nL) (hj : dw_inj Γ)
    (body : ∀ (p : Program) (e : Env) (s : State) (m : MethodId) (below : List Frame) (meth : Method) (c : Code), dw_C Γ p s m av.toArray meth c cc nL own → meth.sig.returnType = ret → meth.locks = false → dw_Z Γ (dw_A Γ) s.heap μ s.heap [] → ∀ ls : Array Slot, lv_has ls nL (lv_args 0 av) → W p l e (dw_rm fr lo) s m av.toArray below meth c s.heap [] 0 0 (MQ below Qc av.toArray s 0 0 (dw_A Γ)) (F0 m 0 ls [])) :
    Met l y (dw_ws y cc nL ret) (dw_rm fr lo) (dw_P Γ av μ) Qc 0 0 (dw_A Γ) := by
  refine Met.ofW (cc := cc) (maxL := nL) (ret := ret) hy rfl ?_
  intro p e s m args below meth c s₁ B hml hv
  obtain ⟨rfl, hP, hK⟩ := hv
  have hts := atoms_spec (ws := dw_ws y cc nL ret) B.pre
  have hown : s.vm.findClass own = some m.cls := by rw [← ho]; exact findClass_of_methodNamed B.named
  have hl := lv_entry av (n := nL) hn
  rw [lg_entry_eq]
  exact body p e s m below meth c ⟨B.exec, B.bytes, hml, hown, fun w h => hts w (List.mem_cons_of_mem _ h), hK, hj⟩ B.returns B.notSynchronized ⟨hP, va_S.rf⟩ _ hl
/-- a field of an object -/
theorem dw_get (C0 : dw_C Γ p s m args meth c cc nL own) (Z : dw_Z Γ A H0 μ H locs) {i ci N : Nat} {fs : List Value} {C : String} {T : u_T} (hi : i < 148) (he : dw_cz Γ i (μ.1 i) (μ.2 i) = .inr (ci, fs)) (hc : vwCl[ci]? = some (C, T, N)) (hin : ∀ w ∈ u_ws C T N, w ∈ dw_TB) (k : Nat) (hk : k < N) {index : Nat} {ref : String} (hlink : Cond.fieldLink own index ref (T k).2.1 (T k).2.2.1 ∈ dw_TB) (hsame : (T k).1 = ref) {v : Value} (hv : fs[k]? = some v) (hdg : decode cc pc = .ok (.getfield index, 3))
    (kk : W p l e R s m args below meth c H locs cells slots Q (F0 m (pc + 3) ls (v :: rest))) : W p l e R s m args below meth c H locs cells slots Q (F0 m pc ls (.ref (dw_ad Γ i) :: rest)) := by
  obtain ⟨hx, hb, hml, hown, hT, hK, hj⟩ := C0
  exact va_get hx hb hT hin hown hK.1 Z.1 i (by rw [dw_at hi, he]) hc k hk (hT _ hlink) (fun x h => by rw [hsame] at h; exact h) hv hdg kk
/-- an int field is written -/
theorem dw_put (C0 : dw_C Γ p s m args meth c cc nL own) (Z : dw_Z Γ A H0 μ H locs) (hA : ∀ q, dw_A Γ q → A q) {i ci N : Nat} {fs : List Value} {C : String} {T : u_T} {ty0 : Nat → FieldType} (hi : i < 148) (he : dw_cz Γ i (μ.1 i) (μ.2 i) = .inr (ci, fs)) (hc : vwCl[ci]? = some (C, T, N)) (hin : ∀ w ∈ u_ws C T N, w ∈ dw_TB) (hty : ∀ k, k < N → parseFieldDescriptor (T k).2.2.1 = some (ty0 k)) (hnm : ∀ a, a < N → ∀ b, b < N → a ≠ b → (T a).2.1 ≠ (T b).2.1) (k : Nat) (hk : k < N) {index : Nat} {ref : String} (hlink : Cond.fieldLink own index ref (T k).2.1 (T k).2.2.1 ∈ dw_TB) (hsame : (T k).1 = ref) (hfin : (T k).2.2.2 = false) {v : Value} (hn : narrow (ty0 k) v = v) (hfit : fits (ty0 k) v = true) (hl : k < fs.length) {ν : dw_M} (hE : (.inr (ci, fs.set k v) : va_E) = dw_cz Γ i (ν.1 i) (ν.2 i)) (h1 : ∀ j, j ≠ i → ν.1 j = μ.1 j) (h2 : ∀ j, j ≠ i → ν.2 j = μ.2 j) (hdg : decode cc pc = .ok (.putfield index, 3))
    (kk : ∀ (H1 : Heap) (locs1 : List Loc), dw_Z Γ A H0 ν H1 locs1 → W p l e R s m args below meth c H1 locs1 cells slots Q (F0 m (pc + 3) ls rest)) : W p l e R s m args below meth c H locs cells slots Q (F0 m pc ls (v :: .ref (dw_ad Γ i) :: rest)) := by
  obtain ⟨hx, hb, hml, hown, hT, hK, hj⟩ := C0
  have hD : va_D A (dw_wl Γ μ) := (dw_DD hj μ).weaken (fun _ _ _ h => hA _ h)
  refine va_put hx hb hT hin ty0 hty hnm hown hK.1 Z.1 hD Z.2 i (by rw [dw_at hi, he]) hc k hk (hT _ hlink) (fun x h => by rw [hsame] at h; exact h) hfin (hty k hk) hn hfit hl hdg (fun H1 locs1 hP hD1 hS => ?_)
  rw [dw_set hi hE h1 h2] at hP
  exact kk H1 locs1 ⟨hP, hS⟩
/-- an element of an int array -/
theorem dw_ald (C0 : dw_C Γ p s m args meth c cc nL own) (Z : dw_Z Γ A H0 μ H locs) {i n : Nat} (h : dw_kd i = 11) (hn : dw_ln i = n) {x : Int32} (hx : dw_ok x n = true) (hdg : decode cc pc = .ok (.iaload, 1))
    (kk : W p l e R s m args below meth c H locs cells slots Q (F0 m (pc + 1) ls (.int (μ.1 i x.toNatClampNeg) :: rest))) : W p l e R s m args below meth c H locs cells slots Q (F0 m pc ls (.int x :: .ref (dw_ad Γ i) :: rest)) := by
  obtain ⟨hx', hb, hml, hown, hT, hK, hj⟩ := C0
  subst hn
  exact va_iald hx' hb hK.1 Z.1 i 0 (by rw [dw_at (dw_lt h (by decide)), dw_cz11 h]) rfl (dw_ok_in hx) hdg kk
/-- an element of an int array is written -/
theorem dw_ast (C0 : dw_C Γ p s m args meth c cc nL own) (Z : dw_Z Γ A H0 μ H locs) (hA : ∀ q, dw_A Γ q → A q) {i n : Nat} (h : dw_kd i = 11) (hn : dw_ln i = n) {x v : Int32} (hx : dw_ok x n = true) (hdg : decode cc pc = .ok (.iastore, 1))
    (kk : ∀ (ν : dw_M) (eν : ν = dw_st μ i x.toNatClampNeg v) (H1 : Heap) (locs1 : List Loc), dw_Z Γ A H0 ν H1 locs1 → W p l e R s m args below meth c H1 locs1 cells slots Q (F0 m (pc + 1) ls rest)) : W p l e R s m args below meth c H locs cells slots Q (F0 m pc ls (.int v :: .int x :: .ref (dw_ad Γ i) :: rest)) := by
  obtain ⟨hx', hb, hml, hown, hT, hK, hj⟩ := C0
  subst hn
  have hD : va_D A (dw_wl Γ μ) := (dw_DD hj μ).weaken (fun _ _ _ h => hA _ h)
  refine va_iast hx' hb hK.1 Z.1 hD Z.2 i 0 (by rw [dw_at (dw_lt h (by decide)), dw_cz11 h]) rfl (dw_ok_in hx) hdg (fun H1 locs1 hP hD1 hS => ?_)
  rw [dw_set (ν := dw_st μ i x.toNatClampNeg v) (dw_lt h (by decide)) (by rw [dw_cz11 h, dw_st_at]) (dw_st_ne μ i _ v) (fun _ _ => rfl)] at hP
  exact kk _ rfl H1 locs1 ⟨hP, hS⟩
theorem dw_alen (C0 : dw_C Γ p s m args meth c cc nL own) (Z : dw_Z Γ A H0 μ H locs) {i : Nat} (h : dw_kd i = 11) (hdg : decode cc pc = .ok (.arraylength, 1))
    (kk : W p l e R s m args below meth c H locs cells slots Q (F0 m (pc + 1) ls (.int (nI (dw_ln i)) :: rest))) : W p l e R s m args below meth c H locs cells slots Q (F0 m pc ls (.ref (dw_ad Γ i) :: rest)) := by
  obtain ⟨hx', hb, hml, hown, hT, hK, hj⟩ := C0
  exact va_alen (x := (dw_ln i, .inl (μ.1 i))) hx' hb hK.1 Z.1 i 0 (by rw [dw_at (dw_lt h (by decide)), dw_cz11 h]) (ty := .int) rfl rfl hdg kk
/-- a pipe of the row of pipes -/
theorem dw_aald (C0 : dw_C Γ p s m args meth c cc nL own) (Z : dw_Z Γ A H0 μ H locs) {i : Nat} (h : dw_kd i = 12) {x : Int32} (hx : dw_ok x 20 = true) (hdg : decode cc pc = .ok (.aaload, 1))
    (kk : W p l e R s m args below meth c H locs cells slots Q (F0 m (pc + 1) ls (.ref (dw_ad Γ (i + 1 + 2 * x.toNatClampNeg)) :: rest))) : W p l e R s m args below meth c H locs cells slots Q (F0 m pc ls (.int x :: .ref (dw_ad Γ i) :: rest)) := by
  obtain ⟨hx', hb, hml, hown, hT, hK, hj⟩ := C0
  refine va_aldq hx' hb hK.1 Z.1 i 1 (C := RX5) (by rw [dw_at (dw_lt h (by decide)), dw_cz12 h]) rfl (dw_ok_in hx) hdg ?_
  have e : va_rf (dw_pa Γ i x.toNatClampNeg) = .ref (dw_ad Γ (i + 1 + 2 * x.toNatClampNeg)) := by
    unfold dw_pa
    rw [if_pos (dw_ok_lt hx)]
    rfl
  rw [e]
  exact kk
/-- ends -/
theorem dw_iret {r : Int32} (C0 : dw_C Γ p s m args meth c cc nL own) (Z : dw_Z Γ (dw_A Γ) s.heap μ H locs) (hr : meth.sig.returnType = some .int) (hlk : meth.locks = false) (hdg : decode cc pc = .ok (.ireturn, 1)) : W p l e R s m args below meth c H locs cells slots (MQ below (dw_Qi Γ r μ) args s cells slots (dw_A Γ)) (F0 m pc ls [.int r]) :=
  W.iret (v := r) C0.1 C0.2.1 hr (fun t ht _ => ⟨⟨r, (), rfl, rfl, show va_P Γ.1 vwCl (dw_wl Γ μ) t.heap by rw [ht]; exact Z.1⟩, Z.2.F ht⟩) Z.2.2.2 hdg hlk
theorem dw_zret {r : Int32} (C0 : dw_C Γ p s m args meth c cc nL own) (Z : dw_Z Γ (dw_A Γ) s.heap μ H locs) (hr : meth.sig.returnType = some .boolean) (hlk : meth.locks = false) (hn : narrow .boolean (.int r) = .int r) (hdg : decode cc pc = .ok (.ireturn, 1)) : W p l e R s m args below meth c H locs cells slots (MQ below (dw_Qi Γ r μ) args s cells slots (dw_A Γ)) (F0 m pc ls [.int r]) :=
  W.zret (v := r) C0.1 C0.2.1 hr hn (fun t ht _ => ⟨⟨r, (), rfl, rfl, show va_P Γ.1 vwCl (dw_wl Γ μ) t.heap by rw [ht]; exact Z.1⟩, Z.2.F ht⟩) Z.2.2.2 hdg hlk
theorem dw_vret (C0 : dw_C Γ p s m args meth c cc nL own) (Z : dw_Z Γ (dw_A Γ) s.heap μ H locs) (hr : meth.sig.returnType = none) (hlk : meth.locks = false) (hdg : decode cc pc = .ok (.return_, 1)) : W p l e R s m args below meth c H locs cells slots (MQ below (dw_Qv Γ μ) args s cells slots (dw_A Γ)) (F0 m pc ls []) :=
  W.vret C0.1 C0.2.1 hr (fun t ht _ => ⟨⟨(), rfl, trivial, show va_P Γ.1 vwCl (dw_wl Γ μ) t.heap by rw [ht]; exact Z.1⟩, Z.2.F ht⟩) Z.2.2.2 hdg hlk
variable {y : MethodName} {bytes : ByteArray} {maxL n index fr lo : Nat} {ret : Option FieldType} {As : List Value} {r : Int32} {ν : dw_M} {C : String} {st0 : List Value}
/-- calls of methods of objects -/
theorem dw_cVi (C0 : dw_C Γ p s m args meth c cc nL own) (Z : dw_Z Γ A H0 μ H locs) (hA : ∀ q, dw_A Γ q → A q) {i ci N : Nat} {fs : List Value} {T : u_T} (hi : i < 148) (he : dw_cz Γ i (μ.1 i) (μ.2 i) = .inr (ci, fs)) (hc : vwCl[ci]? = some (C, T, N))
    (hM : Met l y (dw_ws y bytes maxL ret) (dw_rm fr lo) (dw_P Γ (.ref (dw_ad Γ i) :: As) μ) (dw_Qi Γ r ν) 0 0 (dw_A Γ)) (hg : GoodIn dw_TB (wsV own index C y (dw_ws y bytes maxL ret)))
    (hd : y.cls = C ∧ y.cls ≠ "java/lang/invoke/MethodHandle" ∧ y.cls ≠ "java/lang/invoke/VarHandle" ∧ (parseMethodDescriptor y.desc).map (fun d => d.parameters.length) = some As.length) (hR : fr + 1 ≤ R.frames ∧ 8 + (maxL + 11) + lo ≤ R.locals) (hcs : cells ≤ R.cells ∧ slots ≤ R.slots) (hls : ls.size = nL) (hrm : (rest.map fun v => v.category).sum ≤ 8) (hst : st0 = As.reverse ++ .ref (dw_ad Γ i) :: rest) (hdg : decode cc pc = .ok (.invokevirtual index, 3))
    (kk : ∀ (H1 : Heap) (locs1 : List Loc), dw_Z Γ A H0 ν H1 locs1 → W p l e R s m args below meth c H1 locs1 cells slots Q (F0 m (pc + 3) ls (.int r :: rest))) : W p l e R s m args below meth c H locs cells slots Q (F0 m pc ls st0) := by
  obtain ⟨hx, hb, hml, hown, hT, hK, hj⟩ := C0
  refine va_calli (va_runV (As := As) (rest := rest) ⟨hx, hb, hml, hown, hT⟩ hM (cwV As.length hT hg rfl rfl rfl hd hR) ⟨dw_P.blind, va_recv hK.1 Z.1 hc (by rw [dw_at hi, he]), fun U hU hW => ⟨rfl, by rw [hU]; exact Z.1, hK.warm hW⟩⟩ rfl rfl hls hst (lv_room hrm) hdg hcs) Z.2 (fun q _ h => hA q h) hA (fun r1 u t H1 locs1 ht hvm hw hB hz1 hk1 hS => ?_)
  subst hw
  exact kk H1 locs1 ⟨by rw [← ht]; exact hB, hS⟩
theorem dw_cVv (C0 : dw_C Γ p s m args meth c cc nL own) (Z : dw_Z Γ A H0 μ H locs) (hA : ∀ q, dw_A Γ q → A q) {i ci N : Nat} {fs : List Value} {T : u_T} (hi : i < 148) (he : dw_cz Γ i (μ.1 i) (μ.2 i) = .inr (ci, fs)) (hc : vwCl[ci]? = some (C, T, N))
    (hM : Met l y (dw_ws y bytes maxL ret) (dw_rm fr lo) (dw_P Γ (.ref (dw_ad Γ i) :: As) μ) (dw_Qv Γ ν) 0 0 (dw_A Γ)) (hg : GoodIn dw_TB (wsV own index C y (dw_ws y bytes maxL ret)))
    (hd : y.cls = C ∧ y.cls ≠ "java/lang/invoke/MethodHandle" ∧ y.cls ≠ "java/lang/invoke/VarHandle" ∧ (parseMethodDescriptor y.desc).map (fun d => d.parameters.length) = some As.length) (hR : fr + 1 ≤ R.frames ∧ 8 + (maxL + 11) + lo ≤ R.locals) (hcs : cells ≤ R.cells ∧ slots ≤ R.slots) (hls : ls.size = nL) (hrm : (rest.map fun v => v.category).sum ≤ 8) (hst : st0 = As.reverse ++ .ref (dw_ad Γ i) :: rest) (hdg : decode cc pc = .ok (.invokevirtual index, 3))
    (kk : ∀ (H1 : Heap) (locs1 : List Loc), dw_Z Γ A H0 ν H1 locs1 → W p l e R s m args below meth c H1 locs1 cells slots Q (F0 m (pc + 3) ls rest)) : W p l e R s m args below meth c H locs cells slots Q (F0 m pc ls st0) := by
  obtain ⟨hx, hb, hml, hown, hT, hK, hj⟩ := C0
  refine va_callv (va_runV (As := As) (rest := rest) ⟨hx, hb, hml, hown, hT⟩ hM (cwV As.length hT hg rfl rfl rfl hd hR) ⟨dw_P.blind, va_recv hK.1 Z.1 hc (by rw [dw_at hi, he]), fun U hU hW => ⟨rfl, by rw [hU]; exact Z.1, hK.warm hW⟩⟩ rfl rfl hls hst (lv_room hrm) hdg hcs) Z.2 (fun q _ h => hA q h) hA (fun u t H1 locs1 ht hvm hw hB hz1 hk1 hS => ?_)
  exact kk H1 locs1 ⟨by rw [← ht]; exact hB, hS⟩
/-- calls of static methods -/
theorem dw_cSi (C0 : dw_C Γ p s m args meth c cc nL own) (Z : dw_Z Γ A H0 μ H locs) (hA : ∀ q, dw_A Γ q → A q)
    (hM : Met l y (dw_ws y bytes maxL ret) (dw_rm fr lo) (dw_P Γ As μ) (dw_Qi Γ r ν) 0 0 (dw_A Γ)) (hg : GoodIn dw_TB (va_wsS own index y (dw_ws y bytes maxL ret)))
    (hd : y.cls ≠ "java/lang/invoke/MethodHandle" ∧ y.cls ≠ "java/lang/invoke/VarHandle" ∧ (parseMethodDescriptor y.desc).map (fun d => d.parameters.length) = some As.length) (hR : fr + 1 ≤ R.frames ∧ 8 + (maxL + 11) + lo ≤ R.locals) (hcs : cells ≤ R.cells ∧ slots ≤ R.slots) (hls : ls.size = nL) (hrm : (rest.map fun v => v.category).sum ≤ 8) (hst : st0 = As.reverse ++ rest) (hdg : decode cc pc = .ok (.invokestatic index, 3))
    (kk : ∀ (H1 : Heap) (locs1 : List Loc), dw_Z Γ A H0 ν H1 locs1 → W p l e R s m args below meth c H1 locs1 cells slots Q (F0 m (pc + 3) ls (.int r :: rest))) : W p l e R s m args below meth c H locs cells slots Q (F0 m pc ls st0) := by
  obtain ⟨hx, hb, hml, hown, hT, hK, hj⟩ := C0
  refine va_calli (va_runS (As := As) (rest := rest) ⟨hx, hb, hml, hown, hT⟩ hM (va_cwS As.length hT hg rfl rfl rfl hd hR) ⟨dw_P.blind, fun U hU hW => ⟨rfl, by rw [hU]; exact Z.1, hK.warm hW⟩⟩ rfl rfl hls hst (lv_room hrm) hdg hcs) Z.2 (fun q _ h => hA q h) hA (fun r1 u t H1 locs1 ht hvm hw hB hz1 hk1 hS => ?_)
  subst hw
  exact kk H1 locs1 ⟨by rw [← ht]; exact hB, hS⟩
theorem dw_cSv (C0 : dw_C Γ p s m args meth c cc nL own) (Z : dw_Z Γ A H0 μ H locs) (hA : ∀ q, dw_A Γ q → A q)
    (hM : Met l y (dw_ws y bytes maxL ret) (dw_rm fr lo) (dw_P Γ As μ) (dw_Qv Γ ν) 0 0 (dw_A Γ)) (hg : GoodIn dw_TB (va_wsS own index y (dw_ws y bytes maxL ret)))
    (hd : y.cls ≠ "java/lang/invoke/MethodHandle" ∧ y.cls ≠ "java/lang/invoke/VarHandle" ∧ (parseMethodDescriptor y.desc).map (fun d => d.parameters.length) = some As.length) (hR : fr + 1 ≤ R.frames ∧ 8 + (maxL + 11) + lo ≤ R.locals) (hcs : cells ≤ R.cells ∧ slots ≤ R.slots) (hls : ls.size = nL) (hrm : (rest.map fun v => v.category).sum ≤ 8) (hst : st0 = As.reverse ++ rest) (hdg : decode cc pc = .ok (.invokestatic index, 3))
    (kk : ∀ (H1 : Heap) (locs1 : List Loc), dw_Z Γ A H0 ν H1 locs1 → W p l e R s m args below meth c H1 locs1 cells slots Q (F0 m (pc + 3) ls rest)) : W p l e R s m args below meth c H locs cells slots Q (F0 m pc ls st0) := by
  obtain ⟨hx, hb, hml, hown, hT, hK, hj⟩ := C0
  refine va_callv (va_runS (As := As) (rest := rest) ⟨hx, hb, hml, hown, hT⟩ hM (va_cwS As.length hT hg rfl rfl rfl hd hR) ⟨dw_P.blind, fun U hU hW => ⟨rfl, by rw [hU]; exact Z.1, hK.warm hW⟩⟩ rfl rfl hls hst (lv_room hrm) hdg hcs) Z.2 (fun q _ h => hA q h) hA (fun u t H1 locs1 ht hvm hw hB hz1 hk1 hS => ?_)
  exact kk H1 locs1 ⟨by rw [← ht]; exact hB, hS⟩
/-- calls of a nest mate's private static methods -/
theorem dw_cNv {host : String} (C0 : dw_C Γ p s m args meth c cc nL own) (Z : dw_Z Γ A H0 μ H locs) (hA : ∀ q, dw_A Γ q → A q)
    (hM : Met l y (dw_ws y bytes maxL ret) (dw_rm fr lo) (dw_P Γ As μ) (dw_Qv Γ ν) 0 0 (dw_A Γ)) (hq : (own, index, y, host) ∈ dw_nest) (hw : Cond.code y bytes maxL ret ∈ dw_TB) (hini : Cond.initialized y.cls ∈ dw_TB) (hsta : Cond.static y ∈ dw_TB)
    (hd : y.cls ≠ "java/lang/invoke/MethodHandle" ∧ y.cls ≠ "java/lang/invoke/VarHandle" ∧ (parseMethodDescriptor y.desc).map (fun d => d.parameters.length) = some As.length) (hR : fr + 1 ≤ R.frames ∧ 8 + (maxL + 11) + lo ≤ R.locals) (hcs : cells ≤ R.cells ∧ slots ≤ R.slots) (hls : ls.size = nL) (hrm : (rest.map fun v => v.category).sum ≤ 8) (hst : st0 = As.reverse ++ rest) (hdg : decode cc pc = .ok (.invokestatic index, 3))
    (kk : ∀ (H1 : Heap) (locs1 : List Loc), dw_Z Γ A H0 ν H1 locs1 → W p l e R s m args below meth c H1 locs1 cells slots Q (F0 m (pc + 3) ls rest)) : W p l e R s m args below meth c H locs cells slots Q (F0 m pc ls st0) := by
  obtain ⟨hx, hb, hml, hown, hT, hK, hj⟩ := C0
  refine va_callv (va_runSN (As := As) (rest := rest) (host := host) ⟨hx, hb, hml, hown, hT⟩ hM ⟨va_cnB As.length hT (dw_gw hw) rfl rfl rfl (hK.2 _ hq) (hT _ hini) hd hR, hT _ hsta, trivial⟩ ⟨dw_P.blind, fun U hU hW => ⟨rfl, by rw [hU]; exact Z.1, hK.warm hW⟩⟩ rfl rfl hls hst (lv_room hrm) hdg hcs) Z.2 (fun q _ h => hA q h) hA (fun u t H1 locs1 ht hvm hw hB hz1 hk1 hS => ?_)
  exact kk H1 locs1 ⟨by rw [← ht]; exact hB, hS⟩
end DWA
