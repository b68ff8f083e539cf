/-! constructors: a world that grows, cell by cell, from the base b on -/
def dn_wl (Γ : dw_G) (E : Nat → va_E) (n : Nat) : va_W := (List.range n).map (fun t => (dw_ad Γ t, E t))
theorem dn_at {Γ : dw_G} {E : Nat → va_E} {n i : Nat} (h : i < n) : (dn_wl Γ E n)[i]? = some (dw_ad Γ i, E i) := by
  unfold dn_wl
  rw [List.getElem?_map, List.getElem?_range h]
  rfl
theorem dn_len (Γ : dw_G) (E : Nat → va_E) (n : Nat) : (dn_wl Γ E n).length = n := by simp [dn_wl]
theorem dn_cong {Γ : dw_G} {E E' : Nat → va_E} {n : Nat} (h : ∀ t, t < n → E t = E' t) : dn_wl Γ E n = dn_wl Γ E' n := by
  apply List.ext_getElem?
  intro j
  rcases Nat.lt_or_ge j n with q | q
  · rw [dn_at q, dn_at q, h j q]
  · rw [List.getElem?_eq_none (by rw [dn_len]; exact q), List.getElem?_eq_none (by rw [dn_len]; exact q)]
theorem dn_push (Γ : dw_G) (E : Nat → va_E) (n : Nat) (e : va_E) : dn_wl Γ E n ++ [(dw_ad Γ n, e)] = dn_wl Γ (va_up E n e) (n + 1) := by
  apply List.ext_getElem?
  intro j
  rcases Nat.lt_or_ge j n with q | q
  · rw [List.getElem?_append_left (by rw [dn_len]; exact q), dn_at q, dn_at (by omega)]
    simp [va_up, Nat.ne_of_lt q]
  · rw [List.getElem?_append_right (by rw [dn_len]; exact q), dn_len]
    rcases Nat.eq_or_lt_of_le q with q | q
    · subst q
      rw [Nat.sub_self, dn_at (by omega)]
      simp [va_up]
    · rw [List.getElem?_eq_none (by simp; omega), List.getElem?_eq_none (by rw [dn_len]; omega)]
theorem dn_set {Γ : dw_G} {E : Nat → va_E} {n i : Nat} (e : va_E) (h : i < n) : (dn_wl Γ E n).set i (dw_ad Γ i, e) = dn_wl Γ (va_up E i e) n := by
  apply List.ext_getElem?
  intro j
  by_cases q : j = i
  · subst q
    rw [List.getElem?_set_self (by rw [dn_len]; exact h), dn_at h]
    simp [va_up]
  · rw [List.getElem?_set_ne (Ne.symm q)]
    rcases Nat.lt_or_ge j n with z | z
    · rw [dn_at z, dn_at z]
      simp [va_up, q]
    · rw [List.getElem?_eq_none (by rw [dn_len]; exact z), List.getElem?_eq_none (by rw [dn_len]; exact z)]
def dn_ad (Γ : dw_G) (b : Nat) : Prop := ∀ t, dw_ad Γ t = b + t
theorem dn_D {Γ : dw_G} {b : Nat} (h : dn_ad Γ b) (E : Nat → va_E) (n : Nat) : va_D (fun q => b ≤ q) (dn_wl Γ E n) := by
  have key : ∀ (k : Nat) (q : Nat × va_E), (dn_wl Γ E n)[k]? = some q → k < n ∧ q.1 = b + k := by
    intro k q hk
    rcases Nat.lt_or_ge k n with z | z
    · rw [dn_at z] at hk
      cases hk
      exact ⟨z, h k⟩
    · rw [List.getElem?_eq_none (by rw [dn_len]; exact z)] at hk
      cases hk
  refine ⟨fun i j x y hi hk hxy => ?_, fun k q hk => ?_⟩
  · obtain ⟨a1, a2⟩ := key i x hi
    obtain ⟨b1, b2⟩ := key j y hk
    omega
  · obtain ⟨a1, a2⟩ := key k q hk
    rw [a2]
    exact Nat.le_add_right b k
def dn_m : dw_M := (fun c k => if dw_kd c = 1 ∧ k < 2 then 1 else 0, fun _ => 0)
def dn_F (Γ : dw_G) (t : Nat) : va_E := dw_cz Γ t (dn_m.1 t) (dn_m.2 t)
/-- the cells below i as E0 has them, the cell i under way, those behind it done -/
def dn_B (Γ : dw_G) (b : Nat) (E0 : Nat → va_E) (i : Nat) (e : va_E) (n : Nat) (H : Heap) : Prop := ∃ E : Nat → va_E, va_P Γ.1 vwCl (dn_wl Γ E n) H ∧ H.size = b + n ∧ i < n ∧ (∀ t, t < i → E t = E0 t) ∧ E i = e ∧ ∀ t, i < t → t < n → E t = dn_F Γ t
def dn_K (Γ : dw_G) (U : State) : Prop := dw_K Γ U ∧ va_AO RX5 U
theorem dn_K.warm {Γ : dw_G} {s U : State} (hW : s.WarmedH U.vm) (h : dn_K Γ s) : dn_K Γ U := ⟨h.1.warm hW, va_AO.moved hW.alike h.2⟩
theorem dn_K.calling {Γ : dw_G} {U : State} {g : JFrame} {mk : MethodId} {a : Array Value} (h : dn_K Γ U) : dn_K Γ (U.calling g mk a) := ⟨h.1.calling, va_AO.moved (u := U) (U := U.calling g mk a) (Vm.Alike.refl U.vm) h.2⟩
abbrev dn_rm (fr cl sl lo : Nat) : Room := { frames := fr, cells := cl, slots := sl, locals := lo }
def dn_P (Γ : dw_G) (b : Nat) (E0 : Nat → va_E) (i : Nat) (e : va_E) : Array Value → State → Prop := va_Pc [.ref (dw_ad Γ i)] (fun U => dn_B Γ b E0 i e (i + 1) U.heap ∧ dn_K Γ U)
def dn_Q (Γ : dw_G) (b : Nat) (E0 : Nat → va_E) (i n : Nat) (e : va_E) : Array Value → State → Outcome → State → Prop := va_Qv (fun _ : Unit => True) (fun _ t => dn_B Γ b E0 i e n t.heap) (fun q => b ≤ q)
theorem dn_P.blind {Γ : dw_G} {b : Nat} {E0 : Nat → va_E} {i : Nat} {e : va_E} : FrameBlind (dn_P Γ b E0 i e) := fun a U g mk q => ⟨q.1, q.2.1, q.2.2.calling⟩
def dn_C (Γ : dw_G) (b : Nat) (p : Program) (s : State) (m : MethodId) (args : Array Value) (meth : Method) (c : Code) (cc : ByteArray) (nL : Nat) (own : String) : Prop :=
  p.tables.exec = Jvm.exec ∧ c.code = cc ∧ c.maxLocals = nL ∧ s.vm.findClass own = some m.cls ∧ (∀ w ∈ dw_TB, w.before args s = true) ∧ dn_K Γ s ∧ dn_ad Γ b
theorem tw_ac : Cond.arrayClass .int ∈ dw_TB := by decide +kernel
section DNA
variable {p : Program} {l : Launch} {e : Env} {R : Room} {s : State} {m : MethodId} {args : Array Value} {below : List Frame} {meth : Method} {c : Code} {H : Heap} {locs : List Loc} {cells slots : Nat} {Q : State → Prop}
variable {cc : ByteArray} {pc nL : Nat} {ls : Array Slot} {rest : List Value} {Γ : dw_G} {H0 : Heap} {own : String} {b i n : Nat} {E0 : Nat → va_E} {ce : va_E}
theorem dn_met {y : MethodName} {fr cl sl lo : Nat} {Qc : Array Value → State → Outcome → State → Prop} (hy : plainName y.cls = true) (ho : y.cls = own) (hyn : y.name = "<init>") (hn : 1 ≤ nL) (hj : dn_ad Γ b)
    (body : ∀ (p : Program) (e : Env) (s : State) (m : MethodId) (below : List Frame) (meth : Method) (c : Code), dn_C Γ b p s m [Value.ref (dw_ad Γ i)].toArray meth c cc nL own → meth.sig.returnType = none → meth.locks = false → meth.name = "<init>" → ∀ (H : Heap) (locs : List Loc), dn_B Γ b E0 i ce (i + 1) H → va_S (fun q => b ≤ q) s.heap H locs → ∀ ls : Array Slot, lv_has ls nL [(0, .ref (dw_ad Γ i))] → W p l e (dn_rm fr cl sl lo) s m [Value.ref (dw_ad Γ i)].toArray below meth c H locs 0 0 (MQ below Qc [Value.ref (dw_ad Γ i)].toArray s cl sl (fun q => b ≤ q)) (F0 m 0 ls [])) :
    Met l y (dw_ws y cc nL none) (dn_rm fr cl sl lo) (dn_P Γ b E0 i ce) Qc cl sl (fun q => b ≤ q) := by
  refine Met.ofW (cc := cc) (maxL := nL) (ret := none) hy rfl ?_
  intro p e s m args below meth c s₁ B hml hv
  obtain ⟨rfl, hP, hK⟩ := hv
  have hts := atoms_spec (ws := dw_ws y cc nL none) B.pre
  have hown : s.vm.findClass own = some m.cls := by rw [← ho]; exact findClass_of_methodNamed B.named
  have hin : meth.name = "<init>" := by rw [← hyn]; exact (name_of_methodNamed B.named B.method).1
  have hl := lv_entry [Value.ref (dw_ad Γ i)] (n := nL) hn
  rw [lg_entry_eq]
  exact body p e s m below meth c ⟨B.exec, B.bytes, hml, hown, fun w h => hts w (List.mem_cons_of_mem _ h), hK, hj⟩ B.returns B.notSynchronized hin _ _ hP va_S.rf _ hl
theorem dn_vret (C0 : dn_C Γ b p s m args meth c cc nL own) (B : dn_B Γ b E0 i ce n H) (S : va_S (fun q => b ≤ q) s.heap H locs) (hr : meth.sig.returnType = none) (hlk : meth.locks = false) (hdg : decode cc pc = .ok (.return_, 1)) : W p l e R s m args below meth c H locs cells slots (MQ below (dn_Q Γ b E0 i n ce) args s cells slots (fun q => b ≤ q)) (F0 m pc ls []) :=
  W.vret C0.1 C0.2.1 hr (fun t ht _ => ⟨⟨(), rfl, trivial, show dn_B Γ b E0 i ce n t.heap by rw [ht]; exact B⟩, S.F ht⟩) S.2.2 hdg hlk
theorem dn_obj (C0 : dn_C Γ b p s m args meth c cc nL own) (hls : ls.size = nL) {idx a : Nat} (hlink : Cond.methodLink own idx objectInit ∈ dw_TB) (hdg : decode cc pc = .ok (.invokespecial idx, 3)) (hf : 1 ≤ R.frames) (hlo : (rest.map fun v => v.category).sum + 12 ≤ R.locals)
    (kk : W p l e R s m args below meth c H locs cells slots Q (F0 m (pc + 3) ls rest)) : W p l e R s m args below meth c H locs cells slots Q (F0 m pc ls (.ref a :: rest)) := by
  obtain ⟨hx, hb, hml, hown, hT, hK, hj⟩ := C0
  exact W.objInit hx hb hown (hT _ hlink) (hT _ tw_vO_init) (hT _ tw_kO_init) rfl (by rw [hml]; exact hls) rfl hdg hf (by show 2 * 0 + _ + 12 ≤ _; omega) kk
/-- a new int array, the next cell -/
theorem dn_arr (C0 : dn_C Γ b p s m args meth c cc nL own) (B : dn_B Γ b E0 i ce n H) (S : va_S (fun q => b ≤ q) H0 H locs) {x : Int32} {N : Nat} (hn : ¬ x < 0) (hN : x.toNatClampNeg = N) (hby : N * 4 ≤ 536870912) (hk : dn_F Γ n = .inl (Γ.2.1, N, .inl (fun _ => 0))) (hc : cells + 1 ≤ R.cells) (hs : slots + N ≤ R.slots) (hdg : decode cc pc = .ok (.newarray .int, 2))
    (kk : ∀ H1 : Heap, dn_B Γ b E0 i ce (n + 1) H1 → va_S (fun q => b ≤ q) H0 H1 locs → W p l e R s m args below meth c H1 locs (cells + 1) (slots + N) Q (F0 m (pc + 2) ls (.ref (dw_ad Γ n) :: rest))) : W p l e R s m args below meth c H locs cells slots Q (F0 m pc ls (.int x :: rest)) := by
  obtain ⟨hx, hb, hml, hown, hT, hK, hj⟩ := C0
  obtain ⟨E, hP, hz, hin, hlo, he, hd⟩ := B
  refine va_newaK (atype := .int) hx hb (hT _ tw_ac) rfl hdg rfl hn hN hby hc hs (h := b + n) hz fun H1 cA e1 z1 o1 hAr hNm => ?_
  have hcA : cA = Γ.2.1 := by
    have h2 : va_RA s Γ.2.1 .int := (hK.1.1.2 0 _ rfl).2
    exact Option.some.inj (hNm.symm.trans h2)
  subst hcA
  have hk2 : ∀ (k : Nat) (q : Nat × va_E), (dn_wl Γ E n)[k]? = some q → H1[q.1]? = H[q.1]? := fun k q hq => o1 q.1 (by have := (hP k q hq).lt; omega)
  have e0 : dw_ad Γ n = b + n := hj n
  have hP1 : va_P Γ.1 vwCl (dn_wl Γ E n ++ [(dw_ad Γ n, .inl (Γ.2.1, N, .inl (fun _ => 0)))]) H1 := by
    refine (hP.kept hk2).app (fun k q hq => ?_)
    have hz : k < 1 := (List.getElem?_eq_some_iff.mp hq).1
    rw [show k = 0 by omega] at hq
    cases hq
    show H1[dw_ad Γ n]? = some (vp_cell _ _)
    rw [e0, vp_cell_i]
    exact e1
  rw [dn_push] at hP1
  have hS1 : va_S (fun q => b ≤ q) H0 H1 locs := ⟨Nat.le_trans S.1 (by omega), fun q h1 h2 => (o1 q (by have := S.1; omega)).trans (S.2.1 q h1 h2), S.2.2⟩
  have hgo := kk H1 ⟨_, hP1, by omega, by omega, fun t ht => by rw [← hlo t ht]; simp [va_up, show t ≠ n by omega], by rw [← he]; simp [va_up, Nat.ne_of_lt hin], fun t h1 h2 => by
    by_cases q : t = n
    · subst q; simp [va_up, hk]
    · simp [va_up, q]; exact hd t h1 (by omega)⟩ hS1
  rw [← e0]
  exact hgo
/-- a field of the cell under way, ahead of anything else that is there -/
theorem dn_putF (C0 : dn_C Γ b p s m args meth c cc nL own) (hin2 : meth.name = "<init>") {ci N : Nat} {fs : List Value} (B : dn_B Γ b E0 i (.inr (ci, fs)) n H) (S : va_S (fun q => b ≤ q) H0 H locs) {C : String} {T : u_T} {ty0 : Nat → FieldType} (hc : vwCl[ci]? = some (C, T, N)) (hin : ∀ w ∈ u_ws C T N, w ∈ dw_TB) (hty : ∀ k, k < N → parseFieldDescriptor (T k).2.2.1 = some (ty0 k)) (hnm : ∀ a, a < N → ∀ b, b < N → a ≠ b → (T a).2.1 ≠ (T b).2.1) (k : Nat) (hk : k < N) {index : Nat} {ref : String} (hlink : Cond.fieldLink own index ref (T k).2.1 (T k).2.2.1 ∈ dw_TB) (hsame : (T k).1 = ref) (hdecl : (T k).1 = own) (hfin : (T k).2.2.2 = true) {v : Value} (hn : narrow (ty0 k) v = v) (hfit : fits (ty0 k) v = true) (hl : k < fs.length) (hdg : decode cc pc = .ok (.putfield index, 3))
    (kk : ∀ (H1 : Heap) (locs1 : List Loc), dn_B Γ b E0 i (.inr (ci, fs.set k v)) n H1 → va_S (fun q => b ≤ q) H0 H1 locs1 → W p l e R s m args below meth c H1 locs1 cells slots Q (F0 m (pc + 3) ls rest)) : W p l e R s m args below meth c H locs cells slots Q (F0 m pc ls (v :: .ref (dw_ad Γ i) :: rest)) := by
  obtain ⟨hx, hb, hml, hown, hT, hK, hj⟩ := C0
  obtain ⟨E, hP, hz, hin1, hlo, he, hd⟩ := B
  have hD : va_D (fun q => b ≤ q) (dn_wl Γ E n) := dn_D hj E n
  have hap := va_apart (own := own) hT hin ty0 hty hnm hK.1.1 hc
  have heq : (dn_wl Γ E n)[i]? = some (dw_ad Γ i, .inr (ci, fs)) := by rw [dn_at hin1, he]
  obtain ⟨r, h1, cell, q1, q2, q3, q4⟩ := hP i _ heq
  have hr : r = (C, T, N) := Option.some.inj (h1.symm.trans hc)
  subst hr
  obtain ⟨hS, hfc, kC, hkC, hkind⟩ := hK.1.1.1 ci _ hc
  obtain ⟨cf, kf, fi, f, hi, hsl⟩ := hS k hk
  have hlay := hT _ (hin _ (u_in_lay hk))
  unfold u_lay at hlay
  rw [if_pos hfin] at hlay
  have hst := (u_facts hfc hkC (u_lays hT hin hk) hi).1
  have hcf : m.cls = cf := by
    obtain ⟨_, _, c', _, _, _, -, -, hf', -, -, -, hown2, -⟩ := Cond.laysFinal_spec hlay
    have e1 : c' = cf := by have := hi.symm.trans hf'; simp at this; exact this.1.symm
    rw [hdecl] at hown2
    rw [← e1]; exact Option.some.inj (hown.symm.trans hown2)
  have h6 := u_fits hfc hkC hkind (Or.inr hlay) hi (hty k hk) hn hfit
  refine W.putFinK hx hb hown (hT _ hlink) (by rw [← hsame]; exact hi) hst hcf hin2 (by rw [q2]; exact h6) q1 q3 (by rw [hsl]; exact k2_hasslot (q4 k hk)) rfl rfl hdg fun H' e1 e2 e3 => ?_
  rw [hsl] at e1 ⊢
  have hP1 := hP.set hD heq (e := .inr (ci, fs.set k v)) (H1 := H') ⟨_, hc, t_OB.to (V := updV (vp_V fs) k v) ⟨_, e1, q2, q3, t_set q4 hap hk v⟩ (fun j _ => vp_updV_set hl v j)⟩ e3
  rw [dn_set _ hin1] at hP1
  exact kk H' _ ⟨_, hP1, by rw [e2]; exact hz, hin1, fun t ht => by rw [← hlo t ht]; simp [va_up, Nat.ne_of_lt ht], by simp [va_up], fun t h1 h2 => by rw [← hd t h1 h2]; simp [va_up, show t ≠ i by omega]⟩ (S.put e2 e3 (hD.2 i _ heq))
theorem dn_putI (C0 : dn_C Γ b p s m args meth c cc nL own) {ci N : Nat} {fs : List Value} (B : dn_B Γ b E0 i (.inr (ci, fs)) n H) (S : va_S (fun q => b ≤ q) H0 H locs) {C : String} {T : u_T} {ty0 : Nat → FieldType} (hc : vwCl[ci]? = some (C, T, N)) (hin : ∀ w ∈ u_ws C T N, w ∈ dw_TB) (hty : ∀ k, k < N → parseFieldDescriptor (T k).2.2.1 = some (ty0 k)) (hnm : ∀ a, a < N → ∀ b, b < N → a ≠ b → (T a).2.1 ≠ (T b).2.1) (k : Nat) (hk : k < N) {index : Nat} {ref : String} (hlink : Cond.fieldLink own index ref (T k).2.1 (T k).2.2.1 ∈ dw_TB) (hsame : (T k).1 = ref) (hfin : (T k).2.2.2 = false) {v : Value} (hn : narrow (ty0 k) v = v) (hfit : fits (ty0 k) v = true) (hl : k < fs.length) (hdg : decode cc pc = .ok (.putfield index, 3))
    (kk : ∀ (H1 : Heap) (locs1 : List Loc), dn_B Γ b E0 i (.inr (ci, fs.set k v)) n H1 → va_S (fun q => b ≤ q) H0 H1 locs1 → W p l e R s m args below meth c H1 locs1 cells slots Q (F0 m (pc + 3) ls rest)) : W p l e R s m args below meth c H locs cells slots Q (F0 m pc ls (v :: .ref (dw_ad Γ i) :: rest)) := by
  obtain ⟨hx, hb, hml, hown, hT, hK, hj⟩ := C0
  obtain ⟨E, hP, hz, hin1, hlo, he, hd⟩ := B
  have hD : va_D (fun q => b ≤ q) (dn_wl Γ E n) := dn_D hj E n
  have hap := va_apart (own := own) hT hin ty0 hty hnm hK.1.1 hc
  have heq : (dn_wl Γ E n)[i]? = some (dw_ad Γ i, .inr (ci, fs)) := by rw [dn_at hin1, he]
  obtain ⟨r, h1, cell, q1, q2, q3, q4⟩ := hP i _ heq
  have hr : r = (C, T, N) := Option.some.inj (h1.symm.trans hc)
  subst hr
  obtain ⟨hS, hfc, kC, hkC, hkind⟩ := hK.1.1.1 ci _ hc
  obtain ⟨cf, kf, fi, f, hi, hsl⟩ := hS k hk
  have hlay := hT _ (hin _ (u_in_lay hk))
  unfold u_lay at hlay
  rw [if_neg (by rw [hfin]; decide)] at hlay
  have hst := (u_facts hfc hkC (u_lays hT hin hk) hi).1
  have h6 := u_store hfc hkC hkind hlay hi (hty k hk) hn hfit
  refine W.putK hx hb (f := f) ⟨hown, hT _ hlink, ⟨_, _, _, by rw [← hsame]; exact hi⟩, hst⟩ (by rw [q2]; exact h6) q1 q3 (by rw [hsl]; exact k2_hasslot (q4 k hk)) rfl rfl hdg fun H' e1 e2 e3 => ?_
  rw [hsl] at e1 ⊢
  have hP1 := hP.set hD heq (e := .inr (ci, fs.set k v)) (H1 := H') ⟨_, hc, t_OB.to (V := updV (vp_V fs) k v) ⟨_, e1, q2, q3, t_set q4 hap hk v⟩ (fun j _ => vp_updV_set hl v j)⟩ e3
  rw [dn_set _ hin1] at hP1
  exact kk H' _ ⟨_, hP1, by rw [e2]; exact hz, hin1, fun t ht => by rw [← hlo t ht]; simp [va_up, Nat.ne_of_lt ht], by simp [va_up], fun t h1 h2 => by rw [← hd t h1 h2]; simp [va_up, show t ≠ i by omega]⟩ (S.put e2 e3 (hD.2 i _ heq))
/-- a new object with its constructor: new, dup, invokespecial -/
theorem dn_new (C0 : dn_C Γ b p s m args meth c cc nL own) {E1 : Nat → va_E} (hP : va_P Γ.1 vwCl (dn_wl Γ E1 n) H) (hz : H.size = b + n) (S : va_S (fun q => b ≤ q) H0 H locs) {C : String} {T : u_T} {N ci index : Nat} (ty : Nat → FieldType) (hin : ∀ w ∈ u_ws C T N, w ∈ dw_TB) (hty : ∀ k, k < N → parseFieldDescriptor (T k).2.2.1 = some (ty k)) (hcl : Cond.classLink own index C ∈ dw_TB) (hinst : Cond.instantiable C N ∈ dw_TB) (hini : Cond.initialized C ∈ dw_TB) (hc : vwCl[ci]? = some (C, T, N)) {fs : List Value} (hfs : ∀ j, j < N → defaultValue (ty j) = vp_V fs j) (hcells : cells + 1 ≤ R.cells) (hslots : slots + N ≤ R.slots) (hdg : decode cc pc = .ok (.new index, 3))
    (kk : ∀ H1 : Heap, va_P Γ.1 vwCl (dn_wl Γ (va_up E1 n (.inr (ci, fs))) (n + 1)) H1 → H1.size = b + (n + 1) → va_S (fun q => b ≤ q) H0 H1 locs → W p l e R s m args below meth c H1 locs (cells + 1) (slots + N) Q (F0 m (pc + 3) ls (.ref (dw_ad Γ n) :: rest))) : W p l e R s m args below meth c H locs cells slots Q (F0 m pc ls rest) := by
  obtain ⟨hx, hb, hml, hown, hT, hK, hj⟩ := C0
  have hKn := hK.1.1.1 ci _ hc
  have e0 : dw_ad Γ n = b + n := hj n
  refine W.newcK hx hb hown (hT _ hcl) (hT _ hinst) (hT _ hini) rfl hdg hcells hslots hKn.2.1 (h := b + n) hz fun H1 kC hkC e1 z1 o1 => ?_
  have hk2 : ∀ (k : Nat) (q : Nat × va_E), (dn_wl Γ E1 n)[k]? = some q → H1[q.1]? = H[q.1]? := fun k q hq => o1 q.1 (by have := (hP k q hq).lt; omega)
  have hP1 : va_P Γ.1 vwCl (dn_wl Γ E1 n ++ [(dw_ad Γ n, .inr (ci, fs))]) H1 := by
    refine (hP.kept hk2).app (fun k q hq => ?_)
    have hz : k < 1 := (List.getElem?_eq_some_iff.mp hq).1
    rw [show k = 0 by omega] at hq
    cases hq
    rw [← e0] at e1
    exact ⟨_, hc, (u_born ty hT hin hKn hkC e1 hty).to hfs⟩
  rw [dn_push] at hP1
  have hgo := kk H1 hP1 (by omega) ⟨Nat.le_trans S.1 (by omega), fun q h1 h2 => (o1 q (by have := S.1; omega)).trans (S.2.1 q h1 h2), S.2.2⟩
  rw [e0] at hgo
  exact hgo
theorem dn_sub (C0 : dn_C Γ b p s m args meth c cc nL own) (B : dn_B Γ b E0 i ce n H) (S : va_S (fun q => b ≤ q) H0 H locs) {C : String} {T : u_T} {N ci index : Nat} (ty : Nat → FieldType) (hin : ∀ w ∈ u_ws C T N, w ∈ dw_TB) (hty : ∀ k, k < N → parseFieldDescriptor (T k).2.2.1 = some (ty k)) (hcl : Cond.classLink own index C ∈ dw_TB) (hinst : Cond.instantiable C N ∈ dw_TB) (hini : Cond.initialized C ∈ dw_TB) (hc : vwCl[ci]? = some (C, T, N)) {fs : List Value} (hfs : ∀ j, j < N → defaultValue (ty j) = vp_V fs j)
    {y : MethodName} {bytes : ByteArray} {maxL fr lo mc ms size idx : Nat} (hM : ∀ E1 : Nat → va_E, Met l y (dw_ws y bytes maxL none) (dn_rm fr mc ms lo) (dn_P Γ b E1 n (.inr (ci, fs))) (dn_Q Γ b E1 n (n + size) (dn_F Γ n)) mc ms (fun q => b ≤ q)) (hs1 : 1 ≤ size) (hlk : Cond.methodLink own idx y ∈ dw_TB) (hw : Cond.code y bytes maxL none ∈ dw_TB) (hyi : Cond.initialized y.cls ∈ dw_TB) (hiv : Cond.instanceMethod y ∈ dw_TB) (hy1 : y.name = "<init>") (hd : y.cls ≠ "java/lang/invoke/MethodHandle" ∧ y.cls ≠ "java/lang/invoke/VarHandle" ∧ (parseMethodDescriptor y.desc).map (fun d => d.parameters.length) = some 0)
    (hR : fr + 1 ≤ R.frames ∧ 8 + (maxL + 11) + lo ≤ R.locals) (hcs : cells + 1 + mc ≤ R.cells ∧ slots + N + ms ≤ R.slots) (hls : ls.size = nL) (hrm : 1 + (rest.map fun v => v.category).sum ≤ 8) (hd1 : decode cc pc = .ok (.new index, 3)) (hd2 : decode cc (pc + 3) = .ok (.dup, 1)) (hd3 : decode cc (pc + 4) = .ok (.invokespecial idx, 3))
    (kk : ∀ (H1 : Heap) (locs1 : List Loc), dn_B Γ b E0 i ce (n + size) H1 → va_S (fun q => b ≤ q) H0 H1 locs1 → W p l e R s m args below meth c H1 locs1 (cells + 1 + mc) (slots + N + ms) Q (F0 m (pc + 7) ls (.ref (dw_ad Γ n) :: rest))) : W p l e R s m args below meth c H locs cells slots Q (F0 m pc ls rest) := by
  obtain ⟨E, hP, hz, hin1, hlo, he, hd0⟩ := B
  refine dn_new C0 hP hz S ty hin hty hcl hinst hini hc hfs (by omega) (by omega) hd1 (fun H1 hP1 hz1 S1 => ?_)
  refine lv_dup C0.1 C0.2.1 hd2 rfl ?_
  obtain ⟨hx, hb, hml, hown, hT, hK, hj⟩ := C0
  have hB : dn_B Γ b E n (.inr (ci, fs)) (n + 1) H1 := ⟨_, hP1, hz1, by omega, fun t ht => by simp [va_up, Nat.ne_of_lt ht], by simp [va_up], fun t h1 h2 => by omega⟩
  refine va_callv (va_runI (As := []) (rest := .ref (dw_ad Γ n) :: rest) ⟨hx, hb, hml, hown, hT⟩ (hM E) (cwI 0 hT (dw_gw hw) rfl rfl rfl (hT _ hyi) (hT _ hlk) (hT _ hiv) hy1 hd hR) ⟨dn_P.blind, fun U hU hW => ⟨rfl, by rw [hU]; exact hB, hK.warm hW⟩⟩ rfl rfl hls rfl (lv_room (by rw [List.map_cons, List.sum_cons]; exact hrm)) hd3 hcs) S1 (fun q _ h => h) (fun q h => h) (fun u t H2 locs2 ht hvm hw2 hB2 hz2 hk2 S2 => ?_)
  rw [ht] at hB2
  obtain ⟨E2, gP, gz, gin, glo, ge, gd⟩ := hB2
  exact kk H2 locs2 ⟨E2, gP, gz, by omega, fun t h1 => by rw [glo t (by omega)]; exact hlo t h1, by rw [glo i hin1]; exact he, fun t h1 h2 => by
    rcases Nat.lt_or_ge t n with q | q
    · rw [glo t q]; exact hd0 t h1 q
    · rcases Nat.eq_or_lt_of_le q with q | q
      · rw [← q]; exact ge
      · exact gd t q h2⟩ S2
theorem dn_subN {host : String} (C0 : dn_C Γ b p s m args meth c cc nL own) (B : dn_B Γ b E0 i ce n H) (S : va_S (fun q => b ≤ q) H0 H locs) {C : String} {T : u_T} {N ci index : Nat} (ty : Nat → FieldType) (hin : ∀ w ∈ u_ws C T N, w ∈ dw_TB) (hty : ∀ k, k < N → parseFieldDescriptor (T k).2.2.1 = some (ty k)) (hcl : Cond.classLink own index C ∈ dw_TB) (hinst : Cond.instantiable C N ∈ dw_TB) (hini : Cond.initialized C ∈ dw_TB) (hc : vwCl[ci]? = some (C, T, N)) {fs : List Value} (hfs : ∀ j, j < N → defaultValue (ty j) = vp_V fs j)
    {y : MethodName} {bytes : ByteArray} {maxL fr lo mc ms size idx : Nat} (hM : ∀ E1 : Nat → va_E, Met l y (dw_ws y bytes maxL none) (dn_rm fr mc ms lo) (dn_P Γ b E1 n (.inr (ci, fs))) (dn_Q Γ b E1 n (n + size) (dn_F Γ n)) mc ms (fun q => b ≤ q)) (hs1 : 1 ≤ size) (hq : (own, idx, y, host) ∈ dw_nest) (hw : Cond.code y bytes maxL none ∈ dw_TB) (hyi : Cond.initialized y.cls ∈ dw_TB) (hiv : Cond.instanceMethod y ∈ dw_TB) (hy1 : y.name = "<init>") (hd : y.cls ≠ "java/lang/invoke/MethodHandle" ∧ y.cls ≠ "java/lang/invoke/VarHandle" ∧ (parseMethodDescriptor y.desc).map (fun d => d.parameters.length) = some 0)
    (hR : fr + 1 ≤ R.frames ∧ 8 + (maxL + 11) + lo ≤ R.locals) (hcs : cells + 1 + mc ≤ R.cells ∧ slots + N + ms ≤ R.slots) (hls : ls.size = nL) (hrm : 1 + (rest.map fun v => v.category).sum ≤ 8) (hd1 : decode cc pc = .ok (.new index, 3)) (hd2 : decode cc (pc + 3) = .ok (.dup, 1)) (hd3 : decode cc (pc + 4) = .ok (.invokespecial idx, 3))
    (kk : ∀ (H1 : Heap) (locs1 : List Loc), dn_B Γ b E0 i ce (n + size) H1 → va_S (fun q => b ≤ q) H0 H1 locs1 → W p l e R s m args below meth c H1 locs1 (cells + 1 + mc) (slots + N + ms) Q (F0 m (pc + 7) ls (.ref (dw_ad Γ n) :: rest))) : W p l e R s m args below meth c H locs cells slots Q (F0 m pc ls rest) := by
  obtain ⟨E, hP, hz, hin1, hlo, he, hd0⟩ := B
  refine dn_new C0 hP hz S ty hin hty hcl hinst hini hc hfs (by omega) (by omega) hd1 (fun H1 hP1 hz1 S1 => ?_)
  refine lv_dup C0.1 C0.2.1 hd2 rfl ?_
  obtain ⟨hx, hb, hml, hown, hT, hK, hj⟩ := C0
  have hB : dn_B Γ b E n (.inr (ci, fs)) (n + 1) H1 := ⟨_, hP1, hz1, by omega, fun t ht => by simp [va_up, Nat.ne_of_lt ht], by simp [va_up], fun t h1 h2 => by omega⟩
  refine va_callv (va_runIN (As := []) (rest := .ref (dw_ad Γ n) :: rest) (host := host) ⟨hx, hb, hml, hown, hT⟩ (hM E) ⟨va_cnB 0 hT (dw_gw hw) rfl rfl rfl (hK.1.2 _ hq) (hT _ hyi) hd hR, hy1, hT _ hiv⟩ ⟨dn_P.blind, fun U hU hW => ⟨rfl, by rw [hU]; exact hB, hK.warm hW⟩⟩ rfl rfl hls rfl (lv_room (by rw [List.map_cons, List.sum_cons]; exact hrm)) hd3 hcs) S1 (fun q _ h => h) (fun q h => h) (fun u t H2 locs2 ht hvm hw2 hB2 hz2 hk2 S2 => ?_)
  rw [ht] at hB2
  obtain ⟨E2, gP, gz, gin, glo, ge, gd⟩ := hB2
  exact kk H2 locs2 ⟨E2, gP, gz, by omega, fun t h1 => by rw [glo t (by omega)]; exact hlo t h1, by rw [glo i hin1]; exact he, fun t h1 h2 => by
    rcases Nat.lt_or_ge t n with q | q
    · rw [glo t q]; exact hd0 t h1 q
    · rcases Nat.eq_or_lt_of_le q with q | q
      · rw [← q]; exact ge
      · exact gd t q h2⟩ S2
end DNA
