/-! a call of a nest mate's private static method that answers a number -/
section DWC
variable {p : Program} {l : Launch} {e : Env} {R : Room} {s : State} {m : MethodId} {args : Array Value} {below : List Frame} {meth : Method} {c : Code} {H : Heap} {locs : List Loc} {cells slots : Nat} {Q : State → Prop}
variable {cc : ByteArray} {pc nL : Nat} {ls : Array Slot} {rest : List Value} {Γ : dw_G} {A : Nat → Prop} {H0 : Heap} {μ : dw_M} {own : String}
variable {y : MethodName} {bytes : ByteArray} {maxL n index fr lo : Nat} {ret : Option FieldType} {As : List Value} {r : Int32} {ν : dw_M} {C : String} {st0 : List Value}
theorem dw_cNi {host : String} (C0 : dw_C Γ p s m args meth c cc nL own) (Z : dw_Z Γ A H0 μ H locs) (hA : ∀ q, dw_A Γ q → A q)
    (hM : Met l y (dw_ws y bytes maxL ret) (dw_rm fr lo) (dw_P Γ As μ) (dw_Qi Γ r ν) 0 0 (dw_A Γ)) (hq : (own, index, y, host) ∈ dw_nest) (hw : Cond.code y bytes maxL ret ∈ dw_TB) (hini : Cond.initialized y.cls ∈ dw_TB) (hsta : Cond.static y ∈ dw_TB)
    (hd : y.cls ≠ "java/lang/invoke/MethodHandle" ∧ y.cls ≠ "java/lang/invoke/VarHandle" ∧ (parseMethodDescriptor y.desc).map (fun d => d.parameters.length) = some As.length) (hR : fr + 1 ≤ R.frames ∧ 8 + (maxL + 11) + lo ≤ R.locals) (hcs : cells ≤ R.cells ∧ slots ≤ R.slots) (hls : ls.size = nL) (hrm : (rest.map fun v => v.category).sum ≤ 8) (hst : st0 = As.reverse ++ rest) (hdg : decode cc pc = .ok (.invokestatic index, 3))
    (kk : ∀ (H1 : Heap) (locs1 : List Loc), dw_Z Γ A H0 ν H1 locs1 → W p l e R s m args below meth c H1 locs1 cells slots Q (F0 m (pc + 3) ls (.int r :: rest))) : W p l e R s m args below meth c H locs cells slots Q (F0 m pc ls st0) := by
  obtain ⟨hx, hb, hml, hown, hT, hK, hj⟩ := C0
  refine va_calli (va_runSN (As := As) (rest := rest) (host := host) ⟨hx, hb, hml, hown, hT⟩ hM ⟨va_cnB As.length hT (dw_gw hw) rfl rfl rfl (hK.2 _ hq) (hT _ hini) hd hR, hT _ hsta, trivial⟩ ⟨dw_P.blind, fun U hU hW => ⟨rfl, by rw [hU]; exact Z.1, hK.warm hW⟩⟩ rfl rfl hls hst (lv_room hrm) hdg hcs) Z.2 (fun q _ h => hA q h) hA (fun r1 u t H1 locs1 ht hvm hw2 hB hz1 hk1 hS => ?_)
  subst hw2
  exact kk H1 locs1 ⟨by rw [← ht]; exact hB, hS⟩
end DWC
