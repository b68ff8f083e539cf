theorem dw_kc0 : dw_kd 0 = 9 := by decide +kernel
theorem dw_kc1 : dw_kd 1 = 6 := by decide +kernel
theorem dw_kc2 : dw_kd 2 = 1 := by decide +kernel
theorem dw_kc3 : dw_kd 3 = 11 := by decide +kernel
theorem dw_lc3 : dw_ln 3 = 36 := by decide +kernel
theorem dw_kc4 : dw_kd 4 = 11 := by decide +kernel
theorem dw_lc4 : dw_ln 4 = 36 := by decide +kernel
theorem dw_kc5 : dw_kd 5 = 11 := by decide +kernel
theorem dw_lc5 : dw_ln 5 = 4 := by decide +kernel
theorem dw_kc6 : dw_kd 6 = 11 := by decide +kernel
theorem dw_lc6 : dw_ln 6 = 4 := by decide +kernel
theorem dw_kc7 : dw_kd 7 = 11 := by decide +kernel
theorem dw_lc7 : dw_ln 7 = 4 := by decide +kernel
theorem dw_kc8 : dw_kd 8 = 11 := by decide +kernel
theorem dw_lc8 : dw_ln 8 = 4 := by decide +kernel
theorem dw_kc9 : dw_kd 9 = 11 := by decide +kernel
theorem dw_lc9 : dw_ln 9 = 4 := by decide +kernel
theorem dw_kc10 : dw_kd 10 = 3 := by decide +kernel
theorem dw_kc11 : dw_kd 11 = 4 := by decide +kernel
theorem dw_kc12 : dw_kd 12 = 12 := by decide +kernel
theorem dw_kc13 : dw_kd 13 = 5 := by decide +kernel
theorem dw_kc14 : dw_kd 14 = 3 := by decide +kernel
theorem dw_kc15 : dw_kd 15 = 5 := by decide +kernel
theorem dw_kc16 : dw_kd 16 = 3 := by decide +kernel
theorem dw_kc17 : dw_kd 17 = 5 := by decide +kernel
theorem dw_kc18 : dw_kd 18 = 3 := by decide +kernel
theorem dw_kc19 : dw_kd 19 = 5 := by decide +kernel
theorem dw_kc20 : dw_kd 20 = 3 := by decide +kernel
theorem dw_kc21 : dw_kd 21 = 5 := by decide +kernel
theorem dw_kc22 : dw_kd 22 = 3 := by decide +kernel
theorem dw_kc23 : dw_kd 23 = 5 := by decide +kernel
theorem dw_kc24 : dw_kd 24 = 3 := by decide +kernel
theorem dw_kc25 : dw_kd 25 = 5 := by decide +kernel
theorem dw_kc26 : dw_kd 26 = 3 := by decide +kernel
theorem dw_kc27 : dw_kd 27 = 5 := by decide +kernel
theorem dw_kc28 : dw_kd 28 = 3 := by decide +kernel
theorem dw_kc29 : dw_kd 29 = 5 := by decide +kernel
theorem dw_kc30 : dw_kd 30 = 3 := by decide +kernel
theorem dw_kc31 : dw_kd 31 = 5 := by decide +kernel
theorem dw_kc32 : dw_kd 32 = 3 := by decide +kernel
theorem dw_kc33 : dw_kd 33 = 5 := by decide +kernel
theorem dw_kc34 : dw_kd 34 = 3 := by decide +kernel
theorem dw_kc35 : dw_kd 35 = 5 := by decide +kernel
theorem dw_kc36 : dw_kd 36 = 3 := by decide +kernel
theorem dw_kc37 : dw_kd 37 = 5 := by decide +kernel
theorem dw_kc38 : dw_kd 38 = 3 := by decide +kernel
theorem dw_kc39 : dw_kd 39 = 5 := by decide +kernel
theorem dw_kc40 : dw_kd 40 = 3 := by decide +kernel
theorem dw_kc41 : dw_kd 41 = 5 := by decide +kernel
theorem dw_kc42 : dw_kd 42 = 3 := by decide +kernel
theorem dw_kc43 : dw_kd 43 = 5 := by decide +kernel
theorem dw_kc44 : dw_kd 44 = 3 := by decide +kernel
theorem dw_kc45 : dw_kd 45 = 5 := by decide +kernel
theorem dw_kc46 : dw_kd 46 = 3 := by decide +kernel
theorem dw_kc47 : dw_kd 47 = 5 := by decide +kernel
theorem dw_kc48 : dw_kd 48 = 3 := by decide +kernel
theorem dw_kc49 : dw_kd 49 = 5 := by decide +kernel
theorem dw_kc50 : dw_kd 50 = 3 := by decide +kernel
theorem dw_kc51 : dw_kd 51 = 5 := by decide +kernel
theorem dw_kc52 : dw_kd 52 = 3 := by decide +kernel
theorem dw_kc53 : dw_kd 53 = 8 := by decide +kernel
theorem dw_kc54 : dw_kd 54 = 11 := by decide +kernel
theorem dw_lc54 : dw_ln 54 = 36 := by decide +kernel
theorem dw_kc55 : dw_kd 55 = 11 := by decide +kernel
theorem dw_lc55 : dw_ln 55 = 36 := by decide +kernel
theorem dw_kc56 : dw_kd 56 = 11 := by decide +kernel
theorem dw_lc56 : dw_ln 56 = 20 := by decide +kernel
theorem dw_kc57 : dw_kd 57 = 11 := by decide +kernel
theorem dw_lc57 : dw_ln 57 = 20 := by decide +kernel
theorem dw_kc58 : dw_kd 58 = 11 := by decide +kernel
theorem dw_lc58 : dw_ln 58 = 20 := by decide +kernel
theorem dw_kc59 : dw_kd 59 = 11 := by decide +kernel
theorem dw_lc59 : dw_ln 59 = 4 := by decide +kernel
theorem dw_kc60 : dw_kd 60 = 2 := by decide +kernel
theorem dw_kc61 : dw_kd 61 = 11 := by decide +kernel
theorem dw_lc61 : dw_ln 61 = 36 := by decide +kernel
theorem dw_kc62 : dw_kd 62 = 2 := by decide +kernel
theorem dw_kc63 : dw_kd 63 = 2 := by decide +kernel
theorem dw_kc64 : dw_kd 64 = 6 := by decide +kernel
theorem dw_kc65 : dw_kd 65 = 1 := by decide +kernel
theorem dw_kc66 : dw_kd 66 = 11 := by decide +kernel
theorem dw_lc66 : dw_ln 66 = 36 := by decide +kernel
theorem dw_kc67 : dw_kd 67 = 11 := by decide +kernel
theorem dw_lc67 : dw_ln 67 = 36 := by decide +kernel
theorem dw_kc68 : dw_kd 68 = 11 := by decide +kernel
theorem dw_lc68 : dw_ln 68 = 4 := by decide +kernel
theorem dw_kc69 : dw_kd 69 = 11 := by decide +kernel
theorem dw_lc69 : dw_ln 69 = 4 := by decide +kernel
theorem dw_kc70 : dw_kd 70 = 11 := by decide +kernel
theorem dw_lc70 : dw_ln 70 = 4 := by decide +kernel
theorem dw_kc71 : dw_kd 71 = 11 := by decide +kernel
theorem dw_lc71 : dw_ln 71 = 4 := by decide +kernel
theorem dw_kc72 : dw_kd 72 = 11 := by decide +kernel
theorem dw_lc72 : dw_ln 72 = 4 := by decide +kernel
theorem dw_kc73 : dw_kd 73 = 3 := by decide +kernel
theorem dw_kc74 : dw_kd 74 = 4 := by decide +kernel
theorem dw_kc75 : dw_kd 75 = 12 := by decide +kernel
theorem dw_kc76 : dw_kd 76 = 5 := by decide +kernel
theorem dw_kc77 : dw_kd 77 = 3 := by decide +kernel
theorem dw_kc78 : dw_kd 78 = 5 := by decide +kernel
theorem dw_kc79 : dw_kd 79 = 3 := by decide +kernel
theorem dw_kc80 : dw_kd 80 = 5 := by decide +kernel
theorem dw_kc81 : dw_kd 81 = 3 := by decide +kernel
theorem dw_kc82 : dw_kd 82 = 5 := by decide +kernel
theorem dw_kc83 : dw_kd 83 = 3 := by decide +kernel
theorem dw_kc84 : dw_kd 84 = 5 := by decide +kernel
theorem dw_kc85 : dw_kd 85 = 3 := by decide +kernel
theorem dw_kc86 : dw_kd 86 = 5 := by decide +kernel
theorem dw_kc87 : dw_kd 87 = 3 := by decide +kernel
theorem dw_kc88 : dw_kd 88 = 5 := by decide +kernel
theorem dw_kc89 : dw_kd 89 = 3 := by decide +kernel
theorem dw_kc90 : dw_kd 90 = 5 := by decide +kernel
theorem dw_kc91 : dw_kd 91 = 3 := by decide +kernel
theorem dw_kc92 : dw_kd 92 = 5 := by decide +kernel
theorem dw_kc93 : dw_kd 93 = 3 := by decide +kernel
theorem dw_kc94 : dw_kd 94 = 5 := by decide +kernel
theorem dw_kc95 : dw_kd 95 = 3 := by decide +kernel
theorem dw_kc96 : dw_kd 96 = 5 := by decide +kernel
theorem dw_kc97 : dw_kd 97 = 3 := by decide +kernel
theorem dw_kc98 : dw_kd 98 = 5 := by decide +kernel
theorem dw_kc99 : dw_kd 99 = 3 := by decide +kernel
theorem dw_kc100 : dw_kd 100 = 5 := by decide +kernel
theorem dw_kc101 : dw_kd 101 = 3 := by decide +kernel
theorem dw_kc102 : dw_kd 102 = 5 := by decide +kernel
theorem dw_kc103 : dw_kd 103 = 3 := by decide +kernel
theorem dw_kc104 : dw_kd 104 = 5 := by decide +kernel
theorem dw_kc105 : dw_kd 105 = 3 := by decide +kernel
theorem dw_kc106 : dw_kd 106 = 5 := by decide +kernel
theorem dw_kc107 : dw_kd 107 = 3 := by decide +kernel
theorem dw_kc108 : dw_kd 108 = 5 := by decide +kernel
theorem dw_kc109 : dw_kd 109 = 3 := by decide +kernel
theorem dw_kc110 : dw_kd 110 = 5 := by decide +kernel
theorem dw_kc111 : dw_kd 111 = 3 := by decide +kernel
theorem dw_kc112 : dw_kd 112 = 5 := by decide +kernel
theorem dw_kc113 : dw_kd 113 = 3 := by decide +kernel
theorem dw_kc114 : dw_kd 114 = 5 := by decide +kernel
theorem dw_kc115 : dw_kd 115 = 3 := by decide +kernel
theorem dw_kc116 : dw_kd 116 = 8 := by decide +kernel
theorem dw_kc117 : dw_kd 117 = 11 := by decide +kernel
theorem dw_lc117 : dw_ln 117 = 36 := by decide +kernel
theorem dw_kc118 : dw_kd 118 = 11 := by decide +kernel
theorem dw_lc118 : dw_ln 118 = 36 := by decide +kernel
theorem dw_kc119 : dw_kd 119 = 11 := by decide +kernel
theorem dw_lc119 : dw_ln 119 = 20 := by decide +kernel
theorem dw_kc120 : dw_kd 120 = 11 := by decide +kernel
theorem dw_lc120 : dw_ln 120 = 20 := by decide +kernel
theorem dw_kc121 : dw_kd 121 = 11 := by decide +kernel
theorem dw_lc121 : dw_ln 121 = 20 := by decide +kernel
theorem dw_kc122 : dw_kd 122 = 11 := by decide +kernel
theorem dw_lc122 : dw_ln 122 = 4 := by decide +kernel
theorem dw_kc123 : dw_kd 123 = 2 := by decide +kernel
theorem dw_kc124 : dw_kd 124 = 11 := by decide +kernel
theorem dw_lc124 : dw_ln 124 = 36 := by decide +kernel
theorem dw_kc125 : dw_kd 125 = 2 := by decide +kernel
theorem dw_kc126 : dw_kd 126 = 2 := by decide +kernel
theorem dw_kc127 : dw_kd 127 = 8 := by decide +kernel
theorem dw_kc128 : dw_kd 128 = 11 := by decide +kernel
theorem dw_lc128 : dw_ln 128 = 36 := by decide +kernel
theorem dw_kc129 : dw_kd 129 = 11 := by decide +kernel
theorem dw_lc129 : dw_ln 129 = 36 := by decide +kernel
theorem dw_kc130 : dw_kd 130 = 11 := by decide +kernel
theorem dw_lc130 : dw_ln 130 = 20 := by decide +kernel
theorem dw_kc131 : dw_kd 131 = 11 := by decide +kernel
theorem dw_lc131 : dw_ln 131 = 20 := by decide +kernel
theorem dw_kc132 : dw_kd 132 = 11 := by decide +kernel
theorem dw_lc132 : dw_ln 132 = 20 := by decide +kernel
theorem dw_kc133 : dw_kd 133 = 11 := by decide +kernel
theorem dw_lc133 : dw_ln 133 = 4 := by decide +kernel
theorem dw_kc134 : dw_kd 134 = 2 := by decide +kernel
theorem dw_kc135 : dw_kd 135 = 0 := by decide +kernel
theorem dw_kc136 : dw_kd 136 = 11 := by decide +kernel
theorem dw_lc136 : dw_ln 136 = 20 := by decide +kernel
theorem dw_kc137 : dw_kd 137 = 11 := by decide +kernel
theorem dw_lc137 : dw_ln 137 = 36 := by decide +kernel
theorem dw_kc138 : dw_kd 138 = 11 := by decide +kernel
theorem dw_lc138 : dw_ln 138 = 720 := by decide +kernel
theorem dw_kc139 : dw_kd 139 = 7 := by decide +kernel
theorem dw_kc140 : dw_kd 140 = 11 := by decide +kernel
theorem dw_lc140 : dw_ln 140 = 36 := by decide +kernel
theorem dw_kc141 : dw_kd 141 = 11 := by decide +kernel
theorem dw_lc141 : dw_ln 141 = 36 := by decide +kernel
theorem dw_kc142 : dw_kd 142 = 10 := by decide +kernel
theorem dw_kc143 : dw_kd 143 = 11 := by decide +kernel
theorem dw_lc143 : dw_ln 143 = 800 := by decide +kernel
theorem dw_kc144 : dw_kd 144 = 11 := by decide +kernel
theorem dw_lc144 : dw_ln 144 = 800 := by decide +kernel
theorem dw_kc145 : dw_kd 145 = 11 := by decide +kernel
theorem dw_lc145 : dw_ln 145 = 800 := by decide +kernel
theorem dw_kc146 : dw_kd 146 = 11 := by decide +kernel
theorem dw_lc146 : dw_ln 146 = 36 := by decide +kernel
theorem dw_kc147 : dw_kd 147 = 11 := by decide +kernel
theorem dw_lc147 : dw_ln 147 = 36 := by decide +kernel
theorem dw_hA {Γ : dw_G} : ∀ q, dw_A Γ q → dw_A Γ q := fun _ h => h
theorem dw_jnS {α : Sort _} {β : Type} {k : α} {g : α → β} {r : β} (h : dw_jm k g = r) : ∃ k' : α, k' = k ∧ g k' = r := ⟨k, rfl, h⟩
theorem dw_bdK {α β : Type} {e : Option α} {k : α → Option β} {r : Option β} (h : dw_bd e k = r) : ∃ k' : α → Option β, k' = k ∧ dw_bd e k' = r := ⟨k, rfl, h⟩
def dw_b2 {α β γ : Type} (e : Option (α × β)) (k : α → β → Option γ) : Option γ := match e with
  | none => none
  | some x => k x.1 x.2
theorem dw_b2S {α β γ : Type} {e : Option (α × β)} {k : α → β → Option γ} {r : γ} (h : dw_b2 e k = some r) : ∃ x y, e = some (x, y) ∧ k x y = some r := by
  cases e with
  | none => cases h
  | some x => exact ⟨x.1, x.2, rfl, h⟩
theorem dw_s1 {α : Type} {a r : α} (h : some a = some r) : r = a := (Option.some.inj h).symm
theorem dw_s2 {α β : Type} {a r : α} {b t : β} (h : some (a, b) = some (r, t)) : r = a ∧ t = b := by
  have e := Option.some.inj h
  exact ⟨(congrArg Prod.fst e).symm, (congrArg Prod.snd e).symm⟩
theorem dw_t2 {α β : Type} {a r : α} {b t : β} (h : (a, b) = (r, t)) : r = a ∧ t = b := ⟨(congrArg Prod.fst h).symm, (congrArg Prod.snd h).symm⟩
theorem dw_t1 {α : Type} {a r : α} (h : a = r) : r = a := h.symm
def dw_n2 {α β γ : Type} (e : α × β) (k : α → β → γ) : γ := k e.1 e.2
theorem dw_n2S {α β γ : Type} {e : α × β} {k : α → β → γ} {r : γ} (h : dw_n2 e k = r) : ∃ x y, e = (x, y) ∧ k x y = r := ⟨e.1, e.2, rfl, h⟩
theorem dw_eg {α : Type} (e : α) : ∃ y : α, y = e := ⟨e, rfl⟩
def dw_mn (x y : Int32) : Int32 := if y < x then y else x
def dw_mx (x y : Int32) : Int32 := if x < y then y else x
def dw_ab (x : Int32) : Int32 := if 0 ≤ x then x else 0 - x
def dw_re (x y : Int32) : Int32 := x - x / y * y
def dw_us (x : Int64) (y : Int32) : Int64 := (x.toUInt64 >>> (y.toInt64.toUInt64 &&& Int64.toUInt64 63)).toInt64
def dw_sh (x : Int64) (y : Int32) : Int64 := x <<< (y.toInt64 &&& 63)
theorem dw_ti {x y : Int32} (h : ¬ x = y) {k : Int} (hk : y.toInt = k) : x.toInt ≠ k := fun e => h (Int32.toInt_inj.mp (by rw [e, hk]))
section DWB
variable {p : Program} {l : Launch} {e : Env} {R : Room} {s : State} {m : MethodId} {args : Array Value} {below : List Frame} {meth : Method} {c : Code} {H : Heap} {locs : List Loc} {cells slots : Nat} {Q : State → Prop}
variable {cc : ByteArray} {pc nL index : Nat} {ls : Array Slot} {rest : List Value} {Γ : dw_G} {A : Nat → Prop} {H0 : Heap} {μ : dw_M} {own : String} {i t : Nat}
theorem dw_g0_0 (C0 : dw_C Γ p s m args meth c cc nL own) (Z : dw_Z Γ A H0 μ H locs) (h : dw_kd i = 0) (hlink : Cond.fieldLink own index "DrainOffice$Flow" "ranks" "[I" ∈ dw_TB) (ht : i + 1 = t) (hdg : decode cc pc = .ok (.getfield index, 3)) (kk : W p l e R s m args below meth c H locs cells slots Q (F0 m (pc + 3) ls (.ref (dw_ad Γ t) :: rest))) : W p l e R s m args below meth c H locs cells slots Q (F0 m pc ls (.ref (dw_ad Γ i) :: rest)) := by
  subst ht
  exact dw_get C0 Z (dw_lt h (by decide)) (dw_cz0 h) rfl tw_u0 0 (by decide) hlink rfl rfl hdg kk
theorem dw_g0_1 (C0 : dw_C Γ p s m args meth c cc nL own) (Z : dw_Z Γ A H0 μ H locs) (h : dw_kd i = 0) (hlink : Cond.fieldLink own index "DrainOffice$Flow" "mostRank" "I" ∈ dw_TB) (hdg : decode cc pc = .ok (.getfield index, 3)) (kk : W p l e R s m args below meth c H locs cells slots Q (F0 m (pc + 3) ls (.int (μ.1 i 1) :: rest))) : W p l e R s m args below meth c H locs cells slots Q (F0 m pc ls (.ref (dw_ad Γ i) :: rest)) := by
  exact dw_get C0 Z (dw_lt h (by decide)) (dw_cz0 h) rfl tw_u0 1 (by decide) hlink rfl rfl hdg kk
theorem dw_p0_1 (C0 : dw_C Γ p s m args meth c cc nL own) (Z : dw_Z Γ A H0 μ H locs) (hA : ∀ q, dw_A Γ q → A q) (h : dw_kd i = 0) {x : Int32} (hlink : Cond.fieldLink own index "DrainOffice$Flow" "mostRank" "I" ∈ dw_TB) (hdg : decode cc pc = .ok (.putfield index, 3)) (kk : ∀ (ν : dw_M), ν = dw_st μ i 1 x → ∀ (H1 : Heap) (locs1 : List Loc), dw_Z Γ A H0 ν H1 locs1 → W p l e R s m args below meth c H1 locs1 cells slots Q (F0 m (pc + 3) ls rest)) : W p l e R s m args below meth c H locs cells slots Q (F0 m pc ls (.int x :: .ref (dw_ad Γ i) :: rest)) := by
  refine dw_put C0 Z hA (dw_lt h (by decide)) (dw_cz0 h) rfl tw_u0 tyX0_ok nmX0 1 (by decide) hlink rfl rfl rfl rfl (Nat.le_of_ble_eq_true rfl) (ν := dw_st μ i 1 x) ?_ (dw_st_ne μ i 1 x) (fun _ _ => rfl) hdg (fun H1 l1 Z1 => kk _ rfl H1 l1 Z1)
  rw [dw_cz0 h, dw_st_at]
  rfl
theorem dw_g0_2 (C0 : dw_C Γ p s m args meth c cc nL own) (Z : dw_Z Γ A H0 μ H locs) (h : dw_kd i = 0) (hlink : Cond.fieldLink own index "DrainOffice$Flow" "drainCount" "[I" ∈ dw_TB) (ht : i + 2 = t) (hdg : decode cc pc = .ok (.getfield index, 3)) (kk : W p l e R s m args below meth c H locs cells slots Q (F0 m (pc + 3) ls (.ref (dw_ad Γ t) :: rest))) : W p l e R s m args below meth c H locs cells slots Q (F0 m pc ls (.ref (dw_ad Γ i) :: rest)) := by
  subst ht
  exact dw_get C0 Z (dw_lt h (by decide)) (dw_cz0 h) rfl tw_u0 2 (by decide) hlink rfl rfl hdg kk
theorem dw_g0_3 (C0 : dw_C Γ p s m args meth c cc nL own) (Z : dw_Z Γ A H0 μ H locs) (h : dw_kd i = 0) (hlink : Cond.fieldLink own index "DrainOffice$Flow" "drains" "[I" ∈ dw_TB) (ht : i + 3 = t) (hdg : decode cc pc = .ok (.getfield index, 3)) (kk : W p l e R s m args below meth c H locs cells slots Q (F0 m (pc + 3) ls (.ref (dw_ad Γ t) :: rest))) : W p l e R s m args below meth c H locs cells slots Q (F0 m pc ls (.ref (dw_ad Γ i) :: rest)) := by
  subst ht
  exact dw_get C0 Z (dw_lt h (by decide)) (dw_cz0 h) rfl tw_u0 3 (by decide) hlink rfl rfl hdg kk
theorem dw_g1_0 (C0 : dw_C Γ p s m args meth c cc nL own) (Z : dw_Z Γ A H0 μ H locs) (h : dw_kd i = 1) (hlink : Cond.fieldLink own index "DrainOffice$Ground" "columns" "I" ∈ dw_TB) (hdg : decode cc pc = .ok (.getfield index, 3)) (kk : W p l e R s m args below meth c H locs cells slots Q (F0 m (pc + 3) ls (.int (μ.1 i 0) :: rest))) : W p l e R s m args below meth c H locs cells slots Q (F0 m pc ls (.ref (dw_ad Γ i) :: rest)) := by
  exact dw_get C0 Z (dw_lt h (by decide)) (dw_cz1 h) rfl tw_u1 0 (by decide) hlink rfl rfl hdg kk
theorem dw_p1_0 (C0 : dw_C Γ p s m args meth c cc nL own) (Z : dw_Z Γ A H0 μ H locs) (hA : ∀ q, dw_A Γ q → A q) (h : dw_kd i = 1) {x : Int32} (hlink : Cond.fieldLink own index "DrainOffice$Ground" "columns" "I" ∈ dw_TB) (hdg : decode cc pc = .ok (.putfield index, 3)) (kk : ∀ (ν : dw_M), ν = dw_st μ i 0 x → ∀ (H1 : Heap) (locs1 : List Loc), dw_Z Γ A H0 ν H1 locs1 → W p l e R s m args below meth c H1 locs1 cells slots Q (F0 m (pc + 3) ls rest)) : W p l e R s m args below meth c H locs cells slots Q (F0 m pc ls (.int x :: .ref (dw_ad Γ i) :: rest)) := by
  refine dw_put C0 Z hA (dw_lt h (by decide)) (dw_cz1 h) rfl tw_u1 tyX1_ok nmX1 0 (by decide) hlink rfl rfl rfl rfl (Nat.le_of_ble_eq_true rfl) (ν := dw_st μ i 0 x) ?_ (dw_st_ne μ i 0 x) (fun _ _ => rfl) hdg (fun H1 l1 Z1 => kk _ rfl H1 l1 Z1)
  rw [dw_cz1 h, dw_st_at]
  rfl
theorem dw_g1_1 (C0 : dw_C Γ p s m args meth c cc nL own) (Z : dw_Z Γ A H0 μ H locs) (h : dw_kd i = 1) (hlink : Cond.fieldLink own index "DrainOffice$Ground" "places" "I" ∈ dw_TB) (hdg : decode cc pc = .ok (.getfield index, 3)) (kk : W p l e R s m args below meth c H locs cells slots Q (F0 m (pc + 3) ls (.int (μ.1 i 1) :: rest))) : W p l e R s m args below meth c H locs cells slots Q (F0 m pc ls (.ref (dw_ad Γ i) :: rest)) := by
  exact dw_get C0 Z (dw_lt h (by decide)) (dw_cz1 h) rfl tw_u1 1 (by decide) hlink rfl rfl hdg kk
theorem dw_p1_1 (C0 : dw_C Γ p s m args meth c cc nL own) (Z : dw_Z Γ A H0 μ H locs) (hA : ∀ q, dw_A Γ q → A q) (h : dw_kd i = 1) {x : Int32} (hlink : Cond.fieldLink own index "DrainOffice$Ground" "places" "I" ∈ dw_TB) (hdg : decode cc pc = .ok (.putfield index, 3)) (kk : ∀ (ν : dw_M), ν = dw_st μ i 1 x → ∀ (H1 : Heap) (locs1 : List Loc), dw_Z Γ A H0 ν H1 locs1 → W p l e R s m args below meth c H1 locs1 cells slots Q (F0 m (pc + 3) ls rest)) : W p l e R s m args below meth c H locs cells slots Q (F0 m pc ls (.int x :: .ref (dw_ad Γ i) :: rest)) := by
  refine dw_put C0 Z hA (dw_lt h (by decide)) (dw_cz1 h) rfl tw_u1 tyX1_ok nmX1 1 (by decide) hlink rfl rfl rfl rfl (Nat.le_of_ble_eq_true rfl) (ν := dw_st μ i 1 x) ?_ (dw_st_ne μ i 1 x) (fun _ _ => rfl) hdg (fun H1 l1 Z1 => kk _ rfl H1 l1 Z1)
  rw [dw_cz1 h, dw_st_at]
  rfl
theorem dw_g1_2 (C0 : dw_C Γ p s m args meth c cc nL own) (Z : dw_Z Γ A H0 μ H locs) (h : dw_kd i = 1) (hlink : Cond.fieldLink own index "DrainOffice$Ground" "heights" "[I" ∈ dw_TB) (ht : i + 1 = t) (hdg : decode cc pc = .ok (.getfield index, 3)) (kk : W p l e R s m args below meth c H locs cells slots Q (F0 m (pc + 3) ls (.ref (dw_ad Γ t) :: rest))) : W p l e R s m args below meth c H locs cells slots Q (F0 m pc ls (.ref (dw_ad Γ i) :: rest)) := by
  subst ht
  exact dw_get C0 Z (dw_lt h (by decide)) (dw_cz1 h) rfl tw_u1 2 (by decide) hlink rfl rfl hdg kk
theorem dw_g1_3 (C0 : dw_C Γ p s m args meth c cc nL own) (Z : dw_Z Γ A H0 μ H locs) (h : dw_kd i = 1) (hlink : Cond.fieldLink own index "DrainOffice$Ground" "soilOf" "[I" ∈ dw_TB) (ht : i + 2 = t) (hdg : decode cc pc = .ok (.getfield index, 3)) (kk : W p l e R s m args below meth c H locs cells slots Q (F0 m (pc + 3) ls (.ref (dw_ad Γ t) :: rest))) : W p l e R s m args below meth c H locs cells slots Q (F0 m pc ls (.ref (dw_ad Γ i) :: rest)) := by
  subst ht
  exact dw_get C0 Z (dw_lt h (by decide)) (dw_cz1 h) rfl tw_u1 3 (by decide) hlink rfl rfl hdg kk
theorem dw_g1_4 (C0 : dw_C Γ p s m args meth c cc nL own) (Z : dw_Z Γ A H0 μ H locs) (h : dw_kd i = 1) (hlink : Cond.fieldLink own index "DrainOffice$Ground" "takes" "[I" ∈ dw_TB) (ht : i + 3 = t) (hdg : decode cc pc = .ok (.getfield index, 3)) (kk : W p l e R s m args below meth c H locs cells slots Q (F0 m (pc + 3) ls (.ref (dw_ad Γ t) :: rest))) : W p l e R s m args below meth c H locs cells slots Q (F0 m pc ls (.ref (dw_ad Γ i) :: rest)) := by
  subst ht
  exact dw_get C0 Z (dw_lt h (by decide)) (dw_cz1 h) rfl tw_u1 4 (by decide) hlink rfl rfl hdg kk
theorem dw_g1_5 (C0 : dw_C Γ p s m args meth c cc nL own) (Z : dw_Z Γ A H0 μ H locs) (h : dw_kd i = 1) (hlink : Cond.fieldLink own index "DrainOffice$Ground" "gives" "[I" ∈ dw_TB) (ht : i + 4 = t) (hdg : decode cc pc = .ok (.getfield index, 3)) (kk : W p l e R s m args below meth c H locs cells slots Q (F0 m (pc + 3) ls (.ref (dw_ad Γ t) :: rest))) : W p l e R s m args below meth c H locs cells slots Q (F0 m pc ls (.ref (dw_ad Γ i) :: rest)) := by
  subst ht
  exact dw_get C0 Z (dw_lt h (by decide)) (dw_cz1 h) rfl tw_u1 5 (by decide) hlink rfl rfl hdg kk
theorem dw_g1_6 (C0 : dw_C Γ p s m args meth c cc nL own) (Z : dw_Z Γ A H0 μ H locs) (h : dw_kd i = 1) (hlink : Cond.fieldLink own index "DrainOffice$Ground" "keeps" "[I" ∈ dw_TB) (ht : i + 5 = t) (hdg : decode cc pc = .ok (.getfield index, 3)) (kk : W p l e R s m args below meth c H locs cells slots Q (F0 m (pc + 3) ls (.ref (dw_ad Γ t) :: rest))) : W p l e R s m args below meth c H locs cells slots Q (F0 m pc ls (.ref (dw_ad Γ i) :: rest)) := by
  subst ht
  exact dw_get C0 Z (dw_lt h (by decide)) (dw_cz1 h) rfl tw_u1 6 (by decide) hlink rfl rfl hdg kk
theorem dw_g1_7 (C0 : dw_C Γ p s m args meth c cc nL own) (Z : dw_Z Γ A H0 μ H locs) (h : dw_kd i = 1) (hlink : Cond.fieldLink own index "DrainOffice$Ground" "reaches" "[I" ∈ dw_TB) (ht : i + 6 = t) (hdg : decode cc pc = .ok (.getfield index, 3)) (kk : W p l e R s m args below meth c H locs cells slots Q (F0 m (pc + 3) ls (.ref (dw_ad Γ t) :: rest))) : W p l e R s m args below meth c H locs cells slots Q (F0 m pc ls (.ref (dw_ad Γ i) :: rest)) := by
  subst ht
  exact dw_get C0 Z (dw_lt h (by decide)) (dw_cz1 h) rfl tw_u1 7 (by decide) hlink rfl rfl hdg kk
theorem dw_g1_8 (C0 : dw_C Γ p s m args meth c cc nL own) (Z : dw_Z Γ A H0 μ H locs) (h : dw_kd i = 1) (hlink : Cond.fieldLink own index "DrainOffice$Ground" "ditchLevels" "[I" ∈ dw_TB) (ht : i + 7 = t) (hdg : decode cc pc = .ok (.getfield index, 3)) (kk : W p l e R s m args below meth c H locs cells slots Q (F0 m (pc + 3) ls (.ref (dw_ad Γ t) :: rest))) : W p l e R s m args below meth c H locs cells slots Q (F0 m pc ls (.ref (dw_ad Γ i) :: rest)) := by
  subst ht
  exact dw_get C0 Z (dw_lt h (by decide)) (dw_cz1 h) rfl tw_u1 8 (by decide) hlink rfl rfl hdg kk
theorem dw_g2_0 (C0 : dw_C Γ p s m args meth c cc nL own) (Z : dw_Z Γ A H0 μ H locs) (h : dw_kd i = 2) (hlink : Cond.fieldLink own index "DrainOffice$Group" "bits" "J" ∈ dw_TB) (hdg : decode cc pc = .ok (.getfield index, 3)) (kk : W p l e R s m args below meth c H locs cells slots Q (F0 m (pc + 3) ls (.long (μ.2 i) :: rest))) : W p l e R s m args below meth c H locs cells slots Q (F0 m pc ls (.ref (dw_ad Γ i) :: rest)) := by
  exact dw_get C0 Z (dw_lt h (by decide)) (dw_cz2 h) rfl tw_u2 0 (by decide) hlink rfl rfl hdg kk
theorem dw_p2_0 (C0 : dw_C Γ p s m args meth c cc nL own) (Z : dw_Z Γ A H0 μ H locs) (hA : ∀ q, dw_A Γ q → A q) (h : dw_kd i = 2) {x : Int64} (hlink : Cond.fieldLink own index "DrainOffice$Group" "bits" "J" ∈ dw_TB) (hdg : decode cc pc = .ok (.putfield index, 3)) (kk : ∀ (ν : dw_M), ν = dw_sl μ i x → ∀ (H1 : Heap) (locs1 : List Loc), dw_Z Γ A H0 ν H1 locs1 → W p l e R s m args below meth c H1 locs1 cells slots Q (F0 m (pc + 3) ls rest)) : W p l e R s m args below meth c H locs cells slots Q (F0 m pc ls (.long x :: .ref (dw_ad Γ i) :: rest)) := by
  refine dw_put C0 Z hA (dw_lt h (by decide)) (dw_cz2 h) rfl tw_u2 tyX2_ok nmX2 0 (by decide) hlink rfl rfl rfl rfl (Nat.le_of_ble_eq_true rfl) (ν := dw_sl μ i x) ?_ (fun _ _ => rfl) (dw_sl_ne μ i x) hdg (fun H1 l1 Z1 => kk _ rfl H1 l1 Z1)
  rw [dw_cz2 h, dw_sl_at]
  rfl
theorem dw_g3_0 (C0 : dw_C Γ p s m args meth c cc nL own) (Z : dw_Z Γ A H0 μ H locs) (h : dw_kd i = 3) (hlink : Cond.fieldLink own index "DrainOffice$Line" "first" "I" ∈ dw_TB) (hdg : decode cc pc = .ok (.getfield index, 3)) (kk : W p l e R s m args below meth c H locs cells slots Q (F0 m (pc + 3) ls (.int (μ.1 i 0) :: rest))) : W p l e R s m args below meth c H locs cells slots Q (F0 m pc ls (.ref (dw_ad Γ i) :: rest)) := by
  exact dw_get C0 Z (dw_lt h (by decide)) (dw_cz3 h) rfl tw_u3 0 (by decide) hlink rfl rfl hdg kk
theorem dw_p3_0 (C0 : dw_C Γ p s m args meth c cc nL own) (Z : dw_Z Γ A H0 μ H locs) (hA : ∀ q, dw_A Γ q → A q) (h : dw_kd i = 3) {x : Int32} (hlink : Cond.fieldLink own index "DrainOffice$Line" "first" "I" ∈ dw_TB) (hdg : decode cc pc = .ok (.putfield index, 3)) (kk : ∀ (ν : dw_M), ν = dw_st μ i 0 x → ∀ (H1 : Heap) (locs1 : List Loc), dw_Z Γ A H0 ν H1 locs1 → W p l e R s m args below meth c H1 locs1 cells slots Q (F0 m (pc + 3) ls rest)) : W p l e R s m args below meth c H locs cells slots Q (F0 m pc ls (.int x :: .ref (dw_ad Γ i) :: rest)) := by
  refine dw_put C0 Z hA (dw_lt h (by decide)) (dw_cz3 h) rfl tw_u3 tyX3_ok nmX3 0 (by decide) hlink rfl rfl rfl rfl (Nat.le_of_ble_eq_true rfl) (ν := dw_st μ i 0 x) ?_ (dw_st_ne μ i 0 x) (fun _ _ => rfl) hdg (fun H1 l1 Z1 => kk _ rfl H1 l1 Z1)
  rw [dw_cz3 h, dw_st_at]
  rfl
theorem dw_g3_1 (C0 : dw_C Γ p s m args meth c cc nL own) (Z : dw_Z Γ A H0 μ H locs) (h : dw_kd i = 3) (hlink : Cond.fieldLink own index "DrainOffice$Line" "stride" "I" ∈ dw_TB) (hdg : decode cc pc = .ok (.getfield index, 3)) (kk : W p l e R s m args below meth c H locs cells slots Q (F0 m (pc + 3) ls (.int (μ.1 i 1) :: rest))) : W p l e R s m args below meth c H locs cells slots Q (F0 m pc ls (.ref (dw_ad Γ i) :: rest)) := by
  exact dw_get C0 Z (dw_lt h (by decide)) (dw_cz3 h) rfl tw_u3 1 (by decide) hlink rfl rfl hdg kk
theorem dw_p3_1 (C0 : dw_C Γ p s m args meth c cc nL own) (Z : dw_Z Γ A H0 μ H locs) (hA : ∀ q, dw_A Γ q → A q) (h : dw_kd i = 3) {x : Int32} (hlink : Cond.fieldLink own index "DrainOffice$Line" "stride" "I" ∈ dw_TB) (hdg : decode cc pc = .ok (.putfield index, 3)) (kk : ∀ (ν : dw_M), ν = dw_st μ i 1 x → ∀ (H1 : Heap) (locs1 : List Loc), dw_Z Γ A H0 ν H1 locs1 → W p l e R s m args below meth c H1 locs1 cells slots Q (F0 m (pc + 3) ls rest)) : W p l e R s m args below meth c H locs cells slots Q (F0 m pc ls (.int x :: .ref (dw_ad Γ i) :: rest)) := by
  refine dw_put C0 Z hA (dw_lt h (by decide)) (dw_cz3 h) rfl tw_u3 tyX3_ok nmX3 1 (by decide) hlink rfl rfl rfl rfl (Nat.le_of_ble_eq_true rfl) (ν := dw_st μ i 1 x) ?_ (dw_st_ne μ i 1 x) (fun _ _ => rfl) hdg (fun H1 l1 Z1 => kk _ rfl H1 l1 Z1)
  rw [dw_cz3 h, dw_st_at]
  rfl
theorem dw_g3_2 (C0 : dw_C Γ p s m args meth c cc nL own) (Z : dw_Z Γ A H0 μ H locs) (h : dw_kd i = 3) (hlink : Cond.fieldLink own index "DrainOffice$Line" "steps" "I" ∈ dw_TB) (hdg : decode cc pc = .ok (.getfield index, 3)) (kk : W p l e R s m args below meth c H locs cells slots Q (F0 m (pc + 3) ls (.int (μ.1 i 2) :: rest))) : W p l e R s m args below meth c H locs cells slots Q (F0 m pc ls (.ref (dw_ad Γ i) :: rest)) := by
  exact dw_get C0 Z (dw_lt h (by decide)) (dw_cz3 h) rfl tw_u3 2 (by decide) hlink rfl rfl hdg kk
theorem dw_p3_2 (C0 : dw_C Γ p s m args meth c cc nL own) (Z : dw_Z Γ A H0 μ H locs) (hA : ∀ q, dw_A Γ q → A q) (h : dw_kd i = 3) {x : Int32} (hlink : Cond.fieldLink own index "DrainOffice$Line" "steps" "I" ∈ dw_TB) (hdg : decode cc pc = .ok (.putfield index, 3)) (kk : ∀ (ν : dw_M), ν = dw_st μ i 2 x → ∀ (H1 : Heap) (locs1 : List Loc), dw_Z Γ A H0 ν H1 locs1 → W p l e R s m args below meth c H1 locs1 cells slots Q (F0 m (pc + 3) ls rest)) : W p l e R s m args below meth c H locs cells slots Q (F0 m pc ls (.int x :: .ref (dw_ad Γ i) :: rest)) := by
  refine dw_put C0 Z hA (dw_lt h (by decide)) (dw_cz3 h) rfl tw_u3 tyX3_ok nmX3 2 (by decide) hlink rfl rfl rfl rfl (Nat.le_of_ble_eq_true rfl) (ν := dw_st μ i 2 x) ?_ (dw_st_ne μ i 2 x) (fun _ _ => rfl) hdg (fun H1 l1 Z1 => kk _ rfl H1 l1 Z1)
  rw [dw_cz3 h, dw_st_at]
  rfl
theorem dw_g3_3 (C0 : dw_C Γ p s m args meth c cc nL own) (Z : dw_Z Γ A H0 μ H locs) (h : dw_kd i = 3) (hlink : Cond.fieldLink own index "DrainOffice$Line" "level" "I" ∈ dw_TB) (hdg : decode cc pc = .ok (.getfield index, 3)) (kk : W p l e R s m args below meth c H locs cells slots Q (F0 m (pc + 3) ls (.int (μ.1 i 3) :: rest))) : W p l e R s m args below meth c H locs cells slots Q (F0 m pc ls (.ref (dw_ad Γ i) :: rest)) := by
  exact dw_get C0 Z (dw_lt h (by decide)) (dw_cz3 h) rfl tw_u3 3 (by decide) hlink rfl rfl hdg kk
theorem dw_p3_3 (C0 : dw_C Γ p s m args meth c cc nL own) (Z : dw_Z Γ A H0 μ H locs) (hA : ∀ q, dw_A Γ q → A q) (h : dw_kd i = 3) {x : Int32} (hlink : Cond.fieldLink own index "DrainOffice$Line" "level" "I" ∈ dw_TB) (hdg : decode cc pc = .ok (.putfield index, 3)) (kk : ∀ (ν : dw_M), ν = dw_st μ i 3 x → ∀ (H1 : Heap) (locs1 : List Loc), dw_Z Γ A H0 ν H1 locs1 → W p l e R s m args below meth c H1 locs1 cells slots Q (F0 m (pc + 3) ls rest)) : W p l e R s m args below meth c H locs cells slots Q (F0 m pc ls (.int x :: .ref (dw_ad Γ i) :: rest)) := by
  refine dw_put C0 Z hA (dw_lt h (by decide)) (dw_cz3 h) rfl tw_u3 tyX3_ok nmX3 3 (by decide) hlink rfl rfl rfl rfl (Nat.le_of_ble_eq_true rfl) (ν := dw_st μ i 3 x) ?_ (dw_st_ne μ i 3 x) (fun _ _ => rfl) hdg (fun H1 l1 Z1 => kk _ rfl H1 l1 Z1)
  rw [dw_cz3 h, dw_st_at]
  rfl
theorem dw_g3_4 (C0 : dw_C Γ p s m args meth c cc nL own) (Z : dw_Z Γ A H0 μ H locs) (h : dw_kd i = 3) (hlink : Cond.fieldLink own index "DrainOffice$Line" "fall" "I" ∈ dw_TB) (hdg : decode cc pc = .ok (.getfield index, 3)) (kk : W p l e R s m args below meth c H locs cells slots Q (F0 m (pc + 3) ls (.int (μ.1 i 4) :: rest))) : W p l e R s m args below meth c H locs cells slots Q (F0 m pc ls (.ref (dw_ad Γ i) :: rest)) := by
  exact dw_get C0 Z (dw_lt h (by decide)) (dw_cz3 h) rfl tw_u3 4 (by decide) hlink rfl rfl hdg kk
theorem dw_p3_4 (C0 : dw_C Γ p s m args meth c cc nL own) (Z : dw_Z Γ A H0 μ H locs) (hA : ∀ q, dw_A Γ q → A q) (h : dw_kd i = 3) {x : Int32} (hlink : Cond.fieldLink own index "DrainOffice$Line" "fall" "I" ∈ dw_TB) (hdg : decode cc pc = .ok (.putfield index, 3)) (kk : ∀ (ν : dw_M), ν = dw_st μ i 4 x → ∀ (H1 : Heap) (locs1 : List Loc), dw_Z Γ A H0 ν H1 locs1 → W p l e R s m args below meth c H1 locs1 cells slots Q (F0 m (pc + 3) ls rest)) : W p l e R s m args below meth c H locs cells slots Q (F0 m pc ls (.int x :: .ref (dw_ad Γ i) :: rest)) := by
  refine dw_put C0 Z hA (dw_lt h (by decide)) (dw_cz3 h) rfl tw_u3 tyX3_ok nmX3 4 (by decide) hlink rfl rfl rfl rfl (Nat.le_of_ble_eq_true rfl) (ν := dw_st μ i 4 x) ?_ (dw_st_ne μ i 4 x) (fun _ _ => rfl) hdg (fun H1 l1 Z1 => kk _ rfl H1 l1 Z1)
  rw [dw_cz3 h, dw_st_at]
  rfl
theorem dw_g4_0 (C0 : dw_C Γ p s m args meth c cc nL own) (Z : dw_Z Γ A H0 μ H locs) (h : dw_kd i = 4) (hlink : Cond.fieldLink own index "DrainOffice$Net" "pipes" "[LDrainOffice$Pipe;" ∈ dw_TB) (ht : i + 1 = t) (hdg : decode cc pc = .ok (.getfield index, 3)) (kk : W p l e R s m args below meth c H locs cells slots Q (F0 m (pc + 3) ls (.ref (dw_ad Γ t) :: rest))) : W p l e R s m args below meth c H locs cells slots Q (F0 m pc ls (.ref (dw_ad Γ i) :: rest)) := by
  subst ht
  exact dw_get C0 Z (dw_lt h (by decide)) (dw_cz4 h) rfl tw_u4 0 (by decide) hlink rfl rfl hdg kk
theorem dw_g4_1 (C0 : dw_C Γ p s m args meth c cc nL own) (Z : dw_Z Γ A H0 μ H locs) (h : dw_kd i = 4) (hlink : Cond.fieldLink own index "DrainOffice$Net" "count" "I" ∈ dw_TB) (hdg : decode cc pc = .ok (.getfield index, 3)) (kk : W p l e R s m args below meth c H locs cells slots Q (F0 m (pc + 3) ls (.int (μ.1 i 1) :: rest))) : W p l e R s m args below meth c H locs cells slots Q (F0 m pc ls (.ref (dw_ad Γ i) :: rest)) := by
  exact dw_get C0 Z (dw_lt h (by decide)) (dw_cz4 h) rfl tw_u4 1 (by decide) hlink rfl rfl hdg kk
theorem dw_p4_1 (C0 : dw_C Γ p s m args meth c cc nL own) (Z : dw_Z Γ A H0 μ H locs) (hA : ∀ q, dw_A Γ q → A q) (h : dw_kd i = 4) {x : Int32} (hlink : Cond.fieldLink own index "DrainOffice$Net" "count" "I" ∈ dw_TB) (hdg : decode cc pc = .ok (.putfield index, 3)) (kk : ∀ (ν : dw_M), ν = dw_st μ i 1 x → ∀ (H1 : Heap) (locs1 : List Loc), dw_Z Γ A H0 ν H1 locs1 → W p l e R s m args below meth c H1 locs1 cells slots Q (F0 m (pc + 3) ls rest)) : W p l e R s m args below meth c H locs cells slots Q (F0 m pc ls (.int x :: .ref (dw_ad Γ i) :: rest)) := by
  refine dw_put C0 Z hA (dw_lt h (by decide)) (dw_cz4 h) rfl tw_u4 tyX4_ok nmX4 1 (by decide) hlink rfl rfl rfl rfl (Nat.le_of_ble_eq_true rfl) (ν := dw_st μ i 1 x) ?_ (dw_st_ne μ i 1 x) (fun _ _ => rfl) hdg (fun H1 l1 Z1 => kk _ rfl H1 l1 Z1)
  rw [dw_cz4 h, dw_st_at]
  rfl
theorem dw_g5_0 (C0 : dw_C Γ p s m args meth c cc nL own) (Z : dw_Z Γ A H0 μ H locs) (h : dw_kd i = 5) (hlink : Cond.fieldLink own index "DrainOffice$Pipe" "line" "LDrainOffice$Line;" ∈ dw_TB) (ht : i + 1 = t) (hdg : decode cc pc = .ok (.getfield index, 3)) (kk : W p l e R s m args below meth c H locs cells slots Q (F0 m (pc + 3) ls (.ref (dw_ad Γ t) :: rest))) : W p l e R s m args below meth c H locs cells slots Q (F0 m pc ls (.ref (dw_ad Γ i) :: rest)) := by
  subst ht
  exact dw_get C0 Z (dw_lt h (by decide)) (dw_cz5 h) rfl tw_u5 0 (by decide) hlink rfl rfl hdg kk
theorem dw_g5_1 (C0 : dw_C Γ p s m args meth c cc nL own) (Z : dw_Z Γ A H0 μ H locs) (h : dw_kd i = 5) (hlink : Cond.fieldLink own index "DrainOffice$Pipe" "kind" "I" ∈ dw_TB) (hdg : decode cc pc = .ok (.getfield index, 3)) (kk : W p l e R s m args below meth c H locs cells slots Q (F0 m (pc + 3) ls (.int (μ.1 i 1) :: rest))) : W p l e R s m args below meth c H locs cells slots Q (F0 m pc ls (.ref (dw_ad Γ i) :: rest)) := by
  exact dw_get C0 Z (dw_lt h (by decide)) (dw_cz5 h) rfl tw_u5 1 (by decide) hlink rfl rfl hdg kk
theorem dw_p5_1 (C0 : dw_C Γ p s m args meth c cc nL own) (Z : dw_Z Γ A H0 μ H locs) (hA : ∀ q, dw_A Γ q → A q) (h : dw_kd i = 5) {x : Int32} (hlink : Cond.fieldLink own index "DrainOffice$Pipe" "kind" "I" ∈ dw_TB) (hdg : decode cc pc = .ok (.putfield index, 3)) (kk : ∀ (ν : dw_M), ν = dw_st μ i 1 x → ∀ (H1 : Heap) (locs1 : List Loc), dw_Z Γ A H0 ν H1 locs1 → W p l e R s m args below meth c H1 locs1 cells slots Q (F0 m (pc + 3) ls rest)) : W p l e R s m args below meth c H locs cells slots Q (F0 m pc ls (.int x :: .ref (dw_ad Γ i) :: rest)) := by
  refine dw_put C0 Z hA (dw_lt h (by decide)) (dw_cz5 h) rfl tw_u5 tyX5_ok nmX5 1 (by decide) hlink rfl rfl rfl rfl (Nat.le_of_ble_eq_true rfl) (ν := dw_st μ i 1 x) ?_ (dw_st_ne μ i 1 x) (fun _ _ => rfl) hdg (fun H1 l1 Z1 => kk _ rfl H1 l1 Z1)
  rw [dw_cz5 h, dw_st_at]
  rfl
theorem dw_g5_2 (C0 : dw_C Γ p s m args meth c cc nL own) (Z : dw_Z Γ A H0 μ H locs) (h : dw_kd i = 5) (hlink : Cond.fieldLink own index "DrainOffice$Pipe" "width" "I" ∈ dw_TB) (hdg : decode cc pc = .ok (.getfield index, 3)) (kk : W p l e R s m args below meth c H locs cells slots Q (F0 m (pc + 3) ls (.int (μ.1 i 2) :: rest))) : W p l e R s m args below meth c H locs cells slots Q (F0 m pc ls (.ref (dw_ad Γ i) :: rest)) := by
  exact dw_get C0 Z (dw_lt h (by decide)) (dw_cz5 h) rfl tw_u5 2 (by decide) hlink rfl rfl hdg kk
theorem dw_p5_2 (C0 : dw_C Γ p s m args meth c cc nL own) (Z : dw_Z Γ A H0 μ H locs) (hA : ∀ q, dw_A Γ q → A q) (h : dw_kd i = 5) {x : Int32} (hlink : Cond.fieldLink own index "DrainOffice$Pipe" "width" "I" ∈ dw_TB) (hdg : decode cc pc = .ok (.putfield index, 3)) (kk : ∀ (ν : dw_M), ν = dw_st μ i 2 x → ∀ (H1 : Heap) (locs1 : List Loc), dw_Z Γ A H0 ν H1 locs1 → W p l e R s m args below meth c H1 locs1 cells slots Q (F0 m (pc + 3) ls rest)) : W p l e R s m args below meth c H locs cells slots Q (F0 m pc ls (.int x :: .ref (dw_ad Γ i) :: rest)) := by
  refine dw_put C0 Z hA (dw_lt h (by decide)) (dw_cz5 h) rfl tw_u5 tyX5_ok nmX5 2 (by decide) hlink rfl rfl rfl rfl (Nat.le_of_ble_eq_true rfl) (ν := dw_st μ i 2 x) ?_ (dw_st_ne μ i 2 x) (fun _ _ => rfl) hdg (fun H1 l1 Z1 => kk _ rfl H1 l1 Z1)
  rw [dw_cz5 h, dw_st_at]
  rfl
theorem dw_g5_3 (C0 : dw_C Γ p s m args meth c cc nL own) (Z : dw_Z Γ A H0 μ H locs) (h : dw_kd i = 5) (hlink : Cond.fieldLink own index "DrainOffice$Pipe" "bears" "I" ∈ dw_TB) (hdg : decode cc pc = .ok (.getfield index, 3)) (kk : W p l e R s m args below meth c H locs cells slots Q (F0 m (pc + 3) ls (.int (μ.1 i 3) :: rest))) : W p l e R s m args below meth c H locs cells slots Q (F0 m pc ls (.ref (dw_ad Γ i) :: rest)) := by
  exact dw_get C0 Z (dw_lt h (by decide)) (dw_cz5 h) rfl tw_u5 3 (by decide) hlink rfl rfl hdg kk
theorem dw_p5_3 (C0 : dw_C Γ p s m args meth c cc nL own) (Z : dw_Z Γ A H0 μ H locs) (hA : ∀ q, dw_A Γ q → A q) (h : dw_kd i = 5) {x : Int32} (hlink : Cond.fieldLink own index "DrainOffice$Pipe" "bears" "I" ∈ dw_TB) (hdg : decode cc pc = .ok (.putfield index, 3)) (kk : ∀ (ν : dw_M), ν = dw_st μ i 3 x → ∀ (H1 : Heap) (locs1 : List Loc), dw_Z Γ A H0 ν H1 locs1 → W p l e R s m args below meth c H1 locs1 cells slots Q (F0 m (pc + 3) ls rest)) : W p l e R s m args below meth c H locs cells slots Q (F0 m pc ls (.int x :: .ref (dw_ad Γ i) :: rest)) := by
  refine dw_put C0 Z hA (dw_lt h (by decide)) (dw_cz5 h) rfl tw_u5 tyX5_ok nmX5 3 (by decide) hlink rfl rfl rfl rfl (Nat.le_of_ble_eq_true rfl) (ν := dw_st μ i 3 x) ?_ (dw_st_ne μ i 3 x) (fun _ _ => rfl) hdg (fun H1 l1 Z1 => kk _ rfl H1 l1 Z1)
  rw [dw_cz5 h, dw_st_at]
  rfl
theorem dw_g5_4 (C0 : dw_C Γ p s m args meth c cc nL own) (Z : dw_Z Γ A H0 μ H locs) (h : dw_kd i = 5) (hlink : Cond.fieldLink own index "DrainOffice$Pipe" "holds" "I" ∈ dw_TB) (hdg : decode cc pc = .ok (.getfield index, 3)) (kk : W p l e R s m args below meth c H locs cells slots Q (F0 m (pc + 3) ls (.int (μ.1 i 4) :: rest))) : W p l e R s m args below meth c H locs cells slots Q (F0 m pc ls (.ref (dw_ad Γ i) :: rest)) := by
  exact dw_get C0 Z (dw_lt h (by decide)) (dw_cz5 h) rfl tw_u5 4 (by decide) hlink rfl rfl hdg kk
theorem dw_p5_4 (C0 : dw_C Γ p s m args meth c cc nL own) (Z : dw_Z Γ A H0 μ H locs) (hA : ∀ q, dw_A Γ q → A q) (h : dw_kd i = 5) {x : Int32} (hlink : Cond.fieldLink own index "DrainOffice$Pipe" "holds" "I" ∈ dw_TB) (hdg : decode cc pc = .ok (.putfield index, 3)) (kk : ∀ (ν : dw_M), ν = dw_st μ i 4 x → ∀ (H1 : Heap) (locs1 : List Loc), dw_Z Γ A H0 ν H1 locs1 → W p l e R s m args below meth c H1 locs1 cells slots Q (F0 m (pc + 3) ls rest)) : W p l e R s m args below meth c H locs cells slots Q (F0 m pc ls (.int x :: .ref (dw_ad Γ i) :: rest)) := by
  refine dw_put C0 Z hA (dw_lt h (by decide)) (dw_cz5 h) rfl tw_u5 tyX5_ok nmX5 4 (by decide) hlink rfl rfl rfl rfl (Nat.le_of_ble_eq_true rfl) (ν := dw_st μ i 4 x) ?_ (dw_st_ne μ i 4 x) (fun _ _ => rfl) hdg (fun H1 l1 Z1 => kk _ rfl H1 l1 Z1)
  rw [dw_cz5 h, dw_st_at]
  rfl
theorem dw_g5_5 (C0 : dw_C Γ p s m args meth c cc nL own) (Z : dw_Z Γ A H0 μ H locs) (h : dw_kd i = 5) (hlink : Cond.fieldLink own index "DrainOffice$Pipe" "into" "I" ∈ dw_TB) (hdg : decode cc pc = .ok (.getfield index, 3)) (kk : W p l e R s m args below meth c H locs cells slots Q (F0 m (pc + 3) ls (.int (μ.1 i 5) :: rest))) : W p l e R s m args below meth c H locs cells slots Q (F0 m pc ls (.ref (dw_ad Γ i) :: rest)) := by
  exact dw_get C0 Z (dw_lt h (by decide)) (dw_cz5 h) rfl tw_u5 5 (by decide) hlink rfl rfl hdg kk
theorem dw_p5_5 (C0 : dw_C Γ p s m args meth c cc nL own) (Z : dw_Z Γ A H0 μ H locs) (hA : ∀ q, dw_A Γ q → A q) (h : dw_kd i = 5) {x : Int32} (hlink : Cond.fieldLink own index "DrainOffice$Pipe" "into" "I" ∈ dw_TB) (hdg : decode cc pc = .ok (.putfield index, 3)) (kk : ∀ (ν : dw_M), ν = dw_st μ i 5 x → ∀ (H1 : Heap) (locs1 : List Loc), dw_Z Γ A H0 ν H1 locs1 → W p l e R s m args below meth c H1 locs1 cells slots Q (F0 m (pc + 3) ls rest)) : W p l e R s m args below meth c H locs cells slots Q (F0 m pc ls (.int x :: .ref (dw_ad Γ i) :: rest)) := by
  refine dw_put C0 Z hA (dw_lt h (by decide)) (dw_cz5 h) rfl tw_u5 tyX5_ok nmX5 5 (by decide) hlink rfl rfl rfl rfl (Nat.le_of_ble_eq_true rfl) (ν := dw_st μ i 5 x) ?_ (dw_st_ne μ i 5 x) (fun _ _ => rfl) hdg (fun H1 l1 Z1 => kk _ rfl H1 l1 Z1)
  rw [dw_cz5 h, dw_st_at]
  rfl
theorem dw_g6_0 (C0 : dw_C Γ p s m args meth c cc nL own) (Z : dw_Z Γ A H0 μ H locs) (h : dw_kd i = 6) (hlink : Cond.fieldLink own index "DrainOffice$Sheet" "ground" "LDrainOffice$Ground;" ∈ dw_TB) (ht : i + 1 = t) (hdg : decode cc pc = .ok (.getfield index, 3)) (kk : W p l e R s m args below meth c H locs cells slots Q (F0 m (pc + 3) ls (.ref (dw_ad Γ t) :: rest))) : W p l e R s m args below meth c H locs cells slots Q (F0 m pc ls (.ref (dw_ad Γ i) :: rest)) := by
  subst ht
  exact dw_get C0 Z (dw_lt h (by decide)) (dw_cz6 h) rfl tw_u6 0 (by decide) hlink rfl rfl hdg kk
theorem dw_g6_1 (C0 : dw_C Γ p s m args meth c cc nL own) (Z : dw_Z Γ A H0 μ H locs) (h : dw_kd i = 6) (hlink : Cond.fieldLink own index "DrainOffice$Sheet" "hand" "LDrainOffice$Line;" ∈ dw_TB) (ht : i + 9 = t) (hdg : decode cc pc = .ok (.getfield index, 3)) (kk : W p l e R s m args below meth c H locs cells slots Q (F0 m (pc + 3) ls (.ref (dw_ad Γ t) :: rest))) : W p l e R s m args below meth c H locs cells slots Q (F0 m pc ls (.ref (dw_ad Γ i) :: rest)) := by
  subst ht
  exact dw_get C0 Z (dw_lt h (by decide)) (dw_cz6 h) rfl tw_u6 1 (by decide) hlink rfl rfl hdg kk
theorem dw_g6_2 (C0 : dw_C Γ p s m args meth c cc nL own) (Z : dw_Z Γ A H0 μ H locs) (h : dw_kd i = 6) (hlink : Cond.fieldLink own index "DrainOffice$Sheet" "net" "LDrainOffice$Net;" ∈ dw_TB) (ht : i + 10 = t) (hdg : decode cc pc = .ok (.getfield index, 3)) (kk : W p l e R s m args below meth c H locs cells slots Q (F0 m (pc + 3) ls (.ref (dw_ad Γ t) :: rest))) : W p l e R s m args below meth c H locs cells slots Q (F0 m pc ls (.ref (dw_ad Γ i) :: rest)) := by
  subst ht
  exact dw_get C0 Z (dw_lt h (by decide)) (dw_cz6 h) rfl tw_u6 2 (by decide) hlink rfl rfl hdg kk
theorem dw_g6_3 (C0 : dw_C Γ p s m args meth c cc nL own) (Z : dw_Z Γ A H0 μ H locs) (h : dw_kd i = 6) (hlink : Cond.fieldLink own index "DrainOffice$Sheet" "water" "LDrainOffice$Water;" ∈ dw_TB) (ht : i + 52 = t) (hdg : decode cc pc = .ok (.getfield index, 3)) (kk : W p l e R s m args below meth c H locs cells slots Q (F0 m (pc + 3) ls (.ref (dw_ad Γ t) :: rest))) : W p l e R s m args below meth c H locs cells slots Q (F0 m pc ls (.ref (dw_ad Γ i) :: rest)) := by
  subst ht
  exact dw_get C0 Z (dw_lt h (by decide)) (dw_cz6 h) rfl tw_u6 3 (by decide) hlink rfl rfl hdg kk
theorem dw_g6_4 (C0 : dw_C Γ p s m args meth c cc nL own) (Z : dw_Z Γ A H0 μ H locs) (h : dw_kd i = 6) (hlink : Cond.fieldLink own index "DrainOffice$Sheet" "rain" "[I" ∈ dw_TB) (ht : i + 60 = t) (hdg : decode cc pc = .ok (.getfield index, 3)) (kk : W p l e R s m args below meth c H locs cells slots Q (F0 m (pc + 3) ls (.ref (dw_ad Γ t) :: rest))) : W p l e R s m args below meth c H locs cells slots Q (F0 m pc ls (.ref (dw_ad Γ i) :: rest)) := by
  subst ht
  exact dw_get C0 Z (dw_lt h (by decide)) (dw_cz6 h) rfl tw_u6 4 (by decide) hlink rfl rfl hdg kk
theorem dw_g6_5 (C0 : dw_C Γ p s m args meth c cc nL own) (Z : dw_Z Γ A H0 μ H locs) (h : dw_kd i = 6) (hlink : Cond.fieldLink own index "DrainOffice$Sheet" "marked" "LDrainOffice$Group;" ∈ dw_TB) (ht : i + 61 = t) (hdg : decode cc pc = .ok (.getfield index, 3)) (kk : W p l e R s m args below meth c H locs cells slots Q (F0 m (pc + 3) ls (.ref (dw_ad Γ t) :: rest))) : W p l e R s m args below meth c H locs cells slots Q (F0 m pc ls (.ref (dw_ad Γ i) :: rest)) := by
  subst ht
  exact dw_get C0 Z (dw_lt h (by decide)) (dw_cz6 h) rfl tw_u6 5 (by decide) hlink rfl rfl hdg kk
theorem dw_g6_6 (C0 : dw_C Γ p s m args meth c cc nL own) (Z : dw_Z Γ A H0 μ H locs) (h : dw_kd i = 6) (hlink : Cond.fieldLink own index "DrainOffice$Sheet" "sight" "LDrainOffice$Group;" ∈ dw_TB) (ht : i + 62 = t) (hdg : decode cc pc = .ok (.getfield index, 3)) (kk : W p l e R s m args below meth c H locs cells slots Q (F0 m (pc + 3) ls (.ref (dw_ad Γ t) :: rest))) : W p l e R s m args below meth c H locs cells slots Q (F0 m pc ls (.ref (dw_ad Γ i) :: rest)) := by
  subst ht
  exact dw_get C0 Z (dw_lt h (by decide)) (dw_cz6 h) rfl tw_u6 6 (by decide) hlink rfl rfl hdg kk
theorem dw_g7_0 (C0 : dw_C Γ p s m args meth c cc nL own) (Z : dw_Z Γ A H0 μ H locs) (h : dw_kd i = 7) (hlink : Cond.fieldLink own index "DrainOffice$Trenches" "piece" "[I" ∈ dw_TB) (ht : i + 1 = t) (hdg : decode cc pc = .ok (.getfield index, 3)) (kk : W p l e R s m args below meth c H locs cells slots Q (F0 m (pc + 3) ls (.ref (dw_ad Γ t) :: rest))) : W p l e R s m args below meth c H locs cells slots Q (F0 m pc ls (.ref (dw_ad Γ i) :: rest)) := by
  subst ht
  exact dw_get C0 Z (dw_lt h (by decide)) (dw_cz7 h) rfl tw_u7 0 (by decide) hlink rfl rfl hdg kk
theorem dw_g7_1 (C0 : dw_C Γ p s m args meth c cc nL own) (Z : dw_Z Γ A H0 μ H locs) (h : dw_kd i = 7) (hlink : Cond.fieldLink own index "DrainOffice$Trenches" "taken" "[I" ∈ dw_TB) (ht : i + 2 = t) (hdg : decode cc pc = .ok (.getfield index, 3)) (kk : W p l e R s m args below meth c H locs cells slots Q (F0 m (pc + 3) ls (.ref (dw_ad Γ t) :: rest))) : W p l e R s m args below meth c H locs cells slots Q (F0 m pc ls (.ref (dw_ad Γ i) :: rest)) := by
  subst ht
  exact dw_get C0 Z (dw_lt h (by decide)) (dw_cz7 h) rfl tw_u7 1 (by decide) hlink rfl rfl hdg kk
theorem dw_g7_2 (C0 : dw_C Γ p s m args meth c cc nL own) (Z : dw_Z Γ A H0 μ H locs) (h : dw_kd i = 7) (hlink : Cond.fieldLink own index "DrainOffice$Trenches" "count" "I" ∈ dw_TB) (hdg : decode cc pc = .ok (.getfield index, 3)) (kk : W p l e R s m args below meth c H locs cells slots Q (F0 m (pc + 3) ls (.int (μ.1 i 2) :: rest))) : W p l e R s m args below meth c H locs cells slots Q (F0 m pc ls (.ref (dw_ad Γ i) :: rest)) := by
  exact dw_get C0 Z (dw_lt h (by decide)) (dw_cz7 h) rfl tw_u7 2 (by decide) hlink rfl rfl hdg kk
theorem dw_p7_2 (C0 : dw_C Γ p s m args meth c cc nL own) (Z : dw_Z Γ A H0 μ H locs) (hA : ∀ q, dw_A Γ q → A q) (h : dw_kd i = 7) {x : Int32} (hlink : Cond.fieldLink own index "DrainOffice$Trenches" "count" "I" ∈ dw_TB) (hdg : decode cc pc = .ok (.putfield index, 3)) (kk : ∀ (ν : dw_M), ν = dw_st μ i 2 x → ∀ (H1 : Heap) (locs1 : List Loc), dw_Z Γ A H0 ν H1 locs1 → W p l e R s m args below meth c H1 locs1 cells slots Q (F0 m (pc + 3) ls rest)) : W p l e R s m args below meth c H locs cells slots Q (F0 m pc ls (.int x :: .ref (dw_ad Γ i) :: rest)) := by
  refine dw_put C0 Z hA (dw_lt h (by decide)) (dw_cz7 h) rfl tw_u7 tyX7_ok nmX7 2 (by decide) hlink rfl rfl rfl rfl (Nat.le_of_ble_eq_true rfl) (ν := dw_st μ i 2 x) ?_ (dw_st_ne μ i 2 x) (fun _ _ => rfl) hdg (fun H1 l1 Z1 => kk _ rfl H1 l1 Z1)
  rw [dw_cz7 h, dw_st_at]
  rfl
theorem dw_g7_3 (C0 : dw_C Γ p s m args meth c cc nL own) (Z : dw_Z Γ A H0 μ H locs) (h : dw_kd i = 7) (hlink : Cond.fieldLink own index "DrainOffice$Trenches" "cost" "I" ∈ dw_TB) (hdg : decode cc pc = .ok (.getfield index, 3)) (kk : W p l e R s m args below meth c H locs cells slots Q (F0 m (pc + 3) ls (.int (μ.1 i 3) :: rest))) : W p l e R s m args below meth c H locs cells slots Q (F0 m pc ls (.ref (dw_ad Γ i) :: rest)) := by
  exact dw_get C0 Z (dw_lt h (by decide)) (dw_cz7 h) rfl tw_u7 3 (by decide) hlink rfl rfl hdg kk
theorem dw_p7_3 (C0 : dw_C Γ p s m args meth c cc nL own) (Z : dw_Z Γ A H0 μ H locs) (hA : ∀ q, dw_A Γ q → A q) (h : dw_kd i = 7) {x : Int32} (hlink : Cond.fieldLink own index "DrainOffice$Trenches" "cost" "I" ∈ dw_TB) (hdg : decode cc pc = .ok (.putfield index, 3)) (kk : ∀ (ν : dw_M), ν = dw_st μ i 3 x → ∀ (H1 : Heap) (locs1 : List Loc), dw_Z Γ A H0 ν H1 locs1 → W p l e R s m args below meth c H1 locs1 cells slots Q (F0 m (pc + 3) ls rest)) : W p l e R s m args below meth c H locs cells slots Q (F0 m pc ls (.int x :: .ref (dw_ad Γ i) :: rest)) := by
  refine dw_put C0 Z hA (dw_lt h (by decide)) (dw_cz7 h) rfl tw_u7 tyX7_ok nmX7 3 (by decide) hlink rfl rfl rfl rfl (Nat.le_of_ble_eq_true rfl) (ν := dw_st μ i 3 x) ?_ (dw_st_ne μ i 3 x) (fun _ _ => rfl) hdg (fun H1 l1 Z1 => kk _ rfl H1 l1 Z1)
  rw [dw_cz7 h, dw_st_at]
  rfl
theorem dw_g7_4 (C0 : dw_C Γ p s m args meth c cc nL own) (Z : dw_Z Γ A H0 μ H locs) (h : dw_kd i = 7) (hlink : Cond.fieldLink own index "DrainOffice$Trenches" "leastCost" "I" ∈ dw_TB) (hdg : decode cc pc = .ok (.getfield index, 3)) (kk : W p l e R s m args below meth c H locs cells slots Q (F0 m (pc + 3) ls (.int (μ.1 i 4) :: rest))) : W p l e R s m args below meth c H locs cells slots Q (F0 m pc ls (.ref (dw_ad Γ i) :: rest)) := by
  exact dw_get C0 Z (dw_lt h (by decide)) (dw_cz7 h) rfl tw_u7 4 (by decide) hlink rfl rfl hdg kk
theorem dw_p7_4 (C0 : dw_C Γ p s m args meth c cc nL own) (Z : dw_Z Γ A H0 μ H locs) (hA : ∀ q, dw_A Γ q → A q) (h : dw_kd i = 7) {x : Int32} (hlink : Cond.fieldLink own index "DrainOffice$Trenches" "leastCost" "I" ∈ dw_TB) (hdg : decode cc pc = .ok (.putfield index, 3)) (kk : ∀ (ν : dw_M), ν = dw_st μ i 4 x → ∀ (H1 : Heap) (locs1 : List Loc), dw_Z Γ A H0 ν H1 locs1 → W p l e R s m args below meth c H1 locs1 cells slots Q (F0 m (pc + 3) ls rest)) : W p l e R s m args below meth c H locs cells slots Q (F0 m pc ls (.int x :: .ref (dw_ad Γ i) :: rest)) := by
  refine dw_put C0 Z hA (dw_lt h (by decide)) (dw_cz7 h) rfl tw_u7 tyX7_ok nmX7 4 (by decide) hlink rfl rfl rfl rfl (Nat.le_of_ble_eq_true rfl) (ν := dw_st μ i 4 x) ?_ (dw_st_ne μ i 4 x) (fun _ _ => rfl) hdg (fun H1 l1 Z1 => kk _ rfl H1 l1 Z1)
  rw [dw_cz7 h, dw_st_at]
  rfl
theorem dw_g7_5 (C0 : dw_C Γ p s m args meth c cc nL own) (Z : dw_Z Γ A H0 μ H locs) (h : dw_kd i = 7) (hlink : Cond.fieldLink own index "DrainOffice$Trenches" "leastPair" "I" ∈ dw_TB) (hdg : decode cc pc = .ok (.getfield index, 3)) (kk : W p l e R s m args below meth c H locs cells slots Q (F0 m (pc + 3) ls (.int (μ.1 i 5) :: rest))) : W p l e R s m args below meth c H locs cells slots Q (F0 m pc ls (.ref (dw_ad Γ i) :: rest)) := by
  exact dw_get C0 Z (dw_lt h (by decide)) (dw_cz7 h) rfl tw_u7 5 (by decide) hlink rfl rfl hdg kk
theorem dw_p7_5 (C0 : dw_C Γ p s m args meth c cc nL own) (Z : dw_Z Γ A H0 μ H locs) (hA : ∀ q, dw_A Γ q → A q) (h : dw_kd i = 7) {x : Int32} (hlink : Cond.fieldLink own index "DrainOffice$Trenches" "leastPair" "I" ∈ dw_TB) (hdg : decode cc pc = .ok (.putfield index, 3)) (kk : ∀ (ν : dw_M), ν = dw_st μ i 5 x → ∀ (H1 : Heap) (locs1 : List Loc), dw_Z Γ A H0 ν H1 locs1 → W p l e R s m args below meth c H1 locs1 cells slots Q (F0 m (pc + 3) ls rest)) : W p l e R s m args below meth c H locs cells slots Q (F0 m pc ls (.int x :: .ref (dw_ad Γ i) :: rest)) := by
  refine dw_put C0 Z hA (dw_lt h (by decide)) (dw_cz7 h) rfl tw_u7 tyX7_ok nmX7 5 (by decide) hlink rfl rfl rfl rfl (Nat.le_of_ble_eq_true rfl) (ν := dw_st μ i 5 x) ?_ (dw_st_ne μ i 5 x) (fun _ _ => rfl) hdg (fun H1 l1 Z1 => kk _ rfl H1 l1 Z1)
  rw [dw_cz7 h, dw_st_at]
  rfl
theorem dw_g7_6 (C0 : dw_C Γ p s m args meth c cc nL own) (Z : dw_Z Γ A H0 μ H locs) (h : dw_kd i = 7) (hlink : Cond.fieldLink own index "DrainOffice$Trenches" "pieceOfLesser" "I" ∈ dw_TB) (hdg : decode cc pc = .ok (.getfield index, 3)) (kk : W p l e R s m args below meth c H locs cells slots Q (F0 m (pc + 3) ls (.int (μ.1 i 6) :: rest))) : W p l e R s m args below meth c H locs cells slots Q (F0 m pc ls (.ref (dw_ad Γ i) :: rest)) := by
  exact dw_get C0 Z (dw_lt h (by decide)) (dw_cz7 h) rfl tw_u7 6 (by decide) hlink rfl rfl hdg kk
theorem dw_p7_6 (C0 : dw_C Γ p s m args meth c cc nL own) (Z : dw_Z Γ A H0 μ H locs) (hA : ∀ q, dw_A Γ q → A q) (h : dw_kd i = 7) {x : Int32} (hlink : Cond.fieldLink own index "DrainOffice$Trenches" "pieceOfLesser" "I" ∈ dw_TB) (hdg : decode cc pc = .ok (.putfield index, 3)) (kk : ∀ (ν : dw_M), ν = dw_st μ i 6 x → ∀ (H1 : Heap) (locs1 : List Loc), dw_Z Γ A H0 ν H1 locs1 → W p l e R s m args below meth c H1 locs1 cells slots Q (F0 m (pc + 3) ls rest)) : W p l e R s m args below meth c H locs cells slots Q (F0 m pc ls (.int x :: .ref (dw_ad Γ i) :: rest)) := by
  refine dw_put C0 Z hA (dw_lt h (by decide)) (dw_cz7 h) rfl tw_u7 tyX7_ok nmX7 6 (by decide) hlink rfl rfl rfl rfl (Nat.le_of_ble_eq_true rfl) (ν := dw_st μ i 6 x) ?_ (dw_st_ne μ i 6 x) (fun _ _ => rfl) hdg (fun H1 l1 Z1 => kk _ rfl H1 l1 Z1)
  rw [dw_cz7 h, dw_st_at]
  rfl
theorem dw_g7_7 (C0 : dw_C Γ p s m args meth c cc nL own) (Z : dw_Z Γ A H0 μ H locs) (h : dw_kd i = 7) (hlink : Cond.fieldLink own index "DrainOffice$Trenches" "pieceOfGreater" "I" ∈ dw_TB) (hdg : decode cc pc = .ok (.getfield index, 3)) (kk : W p l e R s m args below meth c H locs cells slots Q (F0 m (pc + 3) ls (.int (μ.1 i 7) :: rest))) : W p l e R s m args below meth c H locs cells slots Q (F0 m pc ls (.ref (dw_ad Γ i) :: rest)) := by
  exact dw_get C0 Z (dw_lt h (by decide)) (dw_cz7 h) rfl tw_u7 7 (by decide) hlink rfl rfl hdg kk
theorem dw_p7_7 (C0 : dw_C Γ p s m args meth c cc nL own) (Z : dw_Z Γ A H0 μ H locs) (hA : ∀ q, dw_A Γ q → A q) (h : dw_kd i = 7) {x : Int32} (hlink : Cond.fieldLink own index "DrainOffice$Trenches" "pieceOfGreater" "I" ∈ dw_TB) (hdg : decode cc pc = .ok (.putfield index, 3)) (kk : ∀ (ν : dw_M), ν = dw_st μ i 7 x → ∀ (H1 : Heap) (locs1 : List Loc), dw_Z Γ A H0 ν H1 locs1 → W p l e R s m args below meth c H1 locs1 cells slots Q (F0 m (pc + 3) ls rest)) : W p l e R s m args below meth c H locs cells slots Q (F0 m pc ls (.int x :: .ref (dw_ad Γ i) :: rest)) := by
  refine dw_put C0 Z hA (dw_lt h (by decide)) (dw_cz7 h) rfl tw_u7 tyX7_ok nmX7 7 (by decide) hlink rfl rfl rfl rfl (Nat.le_of_ble_eq_true rfl) (ν := dw_st μ i 7 x) ?_ (dw_st_ne μ i 7 x) (fun _ _ => rfl) hdg (fun H1 l1 Z1 => kk _ rfl H1 l1 Z1)
  rw [dw_cz7 h, dw_st_at]
  rfl
theorem dw_g8_0 (C0 : dw_C Γ p s m args meth c cc nL own) (Z : dw_Z Γ A H0 μ H locs) (h : dw_kd i = 8) (hlink : Cond.fieldLink own index "DrainOffice$Water" "stands" "[I" ∈ dw_TB) (ht : i + 1 = t) (hdg : decode cc pc = .ok (.getfield index, 3)) (kk : W p l e R s m args below meth c H locs cells slots Q (F0 m (pc + 3) ls (.ref (dw_ad Γ t) :: rest))) : W p l e R s m args below meth c H locs cells slots Q (F0 m pc ls (.ref (dw_ad Γ i) :: rest)) := by
  subst ht
  exact dw_get C0 Z (dw_lt h (by decide)) (dw_cz8 h) rfl tw_u8 0 (by decide) hlink rfl rfl hdg kk
theorem dw_g8_1 (C0 : dw_C Γ p s m args meth c cc nL own) (Z : dw_Z Γ A H0 μ H locs) (h : dw_kd i = 8) (hlink : Cond.fieldLink own index "DrainOffice$Water" "wet" "[I" ∈ dw_TB) (ht : i + 2 = t) (hdg : decode cc pc = .ok (.getfield index, 3)) (kk : W p l e R s m args below meth c H locs cells slots Q (F0 m (pc + 3) ls (.ref (dw_ad Γ t) :: rest))) : W p l e R s m args below meth c H locs cells slots Q (F0 m pc ls (.ref (dw_ad Γ i) :: rest)) := by
  subst ht
  exact dw_get C0 Z (dw_lt h (by decide)) (dw_cz8 h) rfl tw_u8 1 (by decide) hlink rfl rfl hdg kk
theorem dw_g8_2 (C0 : dw_C Γ p s m args meth c cc nL own) (Z : dw_Z Γ A H0 μ H locs) (h : dw_kd i = 8) (hlink : Cond.fieldLink own index "DrainOffice$Water" "inside" "[I" ∈ dw_TB) (ht : i + 3 = t) (hdg : decode cc pc = .ok (.getfield index, 3)) (kk : W p l e R s m args below meth c H locs cells slots Q (F0 m (pc + 3) ls (.ref (dw_ad Γ t) :: rest))) : W p l e R s m args below meth c H locs cells slots Q (F0 m pc ls (.ref (dw_ad Γ i) :: rest)) := by
  subst ht
  exact dw_get C0 Z (dw_lt h (by decide)) (dw_cz8 h) rfl tw_u8 2 (by decide) hlink rfl rfl hdg kk
theorem dw_g8_3 (C0 : dw_C Γ p s m args meth c cc nL own) (Z : dw_Z Γ A H0 μ H locs) (h : dw_kd i = 8) (hlink : Cond.fieldLink own index "DrainOffice$Water" "life" "[I" ∈ dw_TB) (ht : i + 4 = t) (hdg : decode cc pc = .ok (.getfield index, 3)) (kk : W p l e R s m args below meth c H locs cells slots Q (F0 m (pc + 3) ls (.ref (dw_ad Γ t) :: rest))) : W p l e R s m args below meth c H locs cells slots Q (F0 m pc ls (.ref (dw_ad Γ i) :: rest)) := by
  subst ht
  exact dw_get C0 Z (dw_lt h (by decide)) (dw_cz8 h) rfl tw_u8 3 (by decide) hlink rfl rfl hdg kk
theorem dw_g8_4 (C0 : dw_C Γ p s m args meth c cc nL own) (Z : dw_Z Γ A H0 μ H locs) (h : dw_kd i = 8) (hlink : Cond.fieldLink own index "DrainOffice$Water" "passed" "[I" ∈ dw_TB) (ht : i + 5 = t) (hdg : decode cc pc = .ok (.getfield index, 3)) (kk : W p l e R s m args below meth c H locs cells slots Q (F0 m (pc + 3) ls (.ref (dw_ad Γ t) :: rest))) : W p l e R s m args below meth c H locs cells slots Q (F0 m pc ls (.ref (dw_ad Γ i) :: rest)) := by
  subst ht
  exact dw_get C0 Z (dw_lt h (by decide)) (dw_cz8 h) rfl tw_u8 4 (by decide) hlink rfl rfl hdg kk
theorem dw_g8_5 (C0 : dw_C Γ p s m args meth c cc nL own) (Z : dw_Z Γ A H0 μ H locs) (h : dw_kd i = 8) (hlink : Cond.fieldLink own index "DrainOffice$Water" "gone" "[I" ∈ dw_TB) (ht : i + 6 = t) (hdg : decode cc pc = .ok (.getfield index, 3)) (kk : W p l e R s m args below meth c H locs cells slots Q (F0 m (pc + 3) ls (.ref (dw_ad Γ t) :: rest))) : W p l e R s m args below meth c H locs cells slots Q (F0 m pc ls (.ref (dw_ad Γ i) :: rest)) := by
  subst ht
  exact dw_get C0 Z (dw_lt h (by decide)) (dw_cz8 h) rfl tw_u8 5 (by decide) hlink rfl rfl hdg kk
theorem dw_g8_6 (C0 : dw_C Γ p s m args meth c cc nL own) (Z : dw_Z Γ A H0 μ H locs) (h : dw_kd i = 8) (hlink : Cond.fieldLink own index "DrainOffice$Water" "blocked" "LDrainOffice$Group;" ∈ dw_TB) (ht : i + 7 = t) (hdg : decode cc pc = .ok (.getfield index, 3)) (kk : W p l e R s m args below meth c H locs cells slots Q (F0 m (pc + 3) ls (.ref (dw_ad Γ t) :: rest))) : W p l e R s m args below meth c H locs cells slots Q (F0 m pc ls (.ref (dw_ad Γ i) :: rest)) := by
  subst ht
  exact dw_get C0 Z (dw_lt h (by decide)) (dw_cz8 h) rfl tw_u8 6 (by decide) hlink rfl rfl hdg kk
theorem dw_g8_7 (C0 : dw_C Γ p s m args meth c cc nL own) (Z : dw_Z Γ A H0 μ H locs) (h : dw_kd i = 8) (hlink : Cond.fieldLink own index "DrainOffice$Water" "fell" "I" ∈ dw_TB) (hdg : decode cc pc = .ok (.getfield index, 3)) (kk : W p l e R s m args below meth c H locs cells slots Q (F0 m (pc + 3) ls (.int (μ.1 i 7) :: rest))) : W p l e R s m args below meth c H locs cells slots Q (F0 m pc ls (.ref (dw_ad Γ i) :: rest)) := by
  exact dw_get C0 Z (dw_lt h (by decide)) (dw_cz8 h) rfl tw_u8 7 (by decide) hlink rfl rfl hdg kk
theorem dw_p8_7 (C0 : dw_C Γ p s m args meth c cc nL own) (Z : dw_Z Γ A H0 μ H locs) (hA : ∀ q, dw_A Γ q → A q) (h : dw_kd i = 8) {x : Int32} (hlink : Cond.fieldLink own index "DrainOffice$Water" "fell" "I" ∈ dw_TB) (hdg : decode cc pc = .ok (.putfield index, 3)) (kk : ∀ (ν : dw_M), ν = dw_st μ i 7 x → ∀ (H1 : Heap) (locs1 : List Loc), dw_Z Γ A H0 ν H1 locs1 → W p l e R s m args below meth c H1 locs1 cells slots Q (F0 m (pc + 3) ls rest)) : W p l e R s m args below meth c H locs cells slots Q (F0 m pc ls (.int x :: .ref (dw_ad Γ i) :: rest)) := by
  refine dw_put C0 Z hA (dw_lt h (by decide)) (dw_cz8 h) rfl tw_u8 tyX8_ok nmX8 7 (by decide) hlink rfl rfl rfl rfl (Nat.le_of_ble_eq_true rfl) (ν := dw_st μ i 7 x) ?_ (dw_st_ne μ i 7 x) (fun _ _ => rfl) hdg (fun H1 l1 Z1 => kk _ rfl H1 l1 Z1)
  rw [dw_cz8 h, dw_st_at]
  rfl
theorem dw_g8_8 (C0 : dw_C Γ p s m args meth c cc nL own) (Z : dw_Z Γ A H0 μ H locs) (h : dw_kd i = 8) (hlink : Cond.fieldLink own index "DrainOffice$Water" "hours" "I" ∈ dw_TB) (hdg : decode cc pc = .ok (.getfield index, 3)) (kk : W p l e R s m args below meth c H locs cells slots Q (F0 m (pc + 3) ls (.int (μ.1 i 8) :: rest))) : W p l e R s m args below meth c H locs cells slots Q (F0 m pc ls (.ref (dw_ad Γ i) :: rest)) := by
  exact dw_get C0 Z (dw_lt h (by decide)) (dw_cz8 h) rfl tw_u8 8 (by decide) hlink rfl rfl hdg kk
theorem dw_p8_8 (C0 : dw_C Γ p s m args meth c cc nL own) (Z : dw_Z Γ A H0 μ H locs) (hA : ∀ q, dw_A Γ q → A q) (h : dw_kd i = 8) {x : Int32} (hlink : Cond.fieldLink own index "DrainOffice$Water" "hours" "I" ∈ dw_TB) (hdg : decode cc pc = .ok (.putfield index, 3)) (kk : ∀ (ν : dw_M), ν = dw_st μ i 8 x → ∀ (H1 : Heap) (locs1 : List Loc), dw_Z Γ A H0 ν H1 locs1 → W p l e R s m args below meth c H1 locs1 cells slots Q (F0 m (pc + 3) ls rest)) : W p l e R s m args below meth c H locs cells slots Q (F0 m pc ls (.int x :: .ref (dw_ad Γ i) :: rest)) := by
  refine dw_put C0 Z hA (dw_lt h (by decide)) (dw_cz8 h) rfl tw_u8 tyX8_ok nmX8 8 (by decide) hlink rfl rfl rfl rfl (Nat.le_of_ble_eq_true rfl) (ν := dw_st μ i 8 x) ?_ (dw_st_ne μ i 8 x) (fun _ _ => rfl) hdg (fun H1 l1 Z1 => kk _ rfl H1 l1 Z1)
  rw [dw_cz8 h, dw_st_at]
  rfl
theorem dw_g9_0 (C0 : dw_C Γ p s m args meth c cc nL own) (Z : dw_Z Γ A H0 μ H locs) (h : dw_kd i = 9) (hlink : Cond.fieldLink own index "DrainOffice" "now" "LDrainOffice$Sheet;" ∈ dw_TB) (ht : i + 1 = t) (hdg : decode cc pc = .ok (.getfield index, 3)) (kk : W p l e R s m args below meth c H locs cells slots Q (F0 m (pc + 3) ls (.ref (dw_ad Γ t) :: rest))) : W p l e R s m args below meth c H locs cells slots Q (F0 m pc ls (.ref (dw_ad Γ i) :: rest)) := by
  subst ht
  exact dw_get C0 Z (dw_lt h (by decide)) (dw_cz9 h) rfl tw_u9 0 (by decide) hlink rfl rfl hdg kk
theorem dw_g9_1 (C0 : dw_C Γ p s m args meth c cc nL own) (Z : dw_Z Γ A H0 μ H locs) (h : dw_kd i = 9) (hlink : Cond.fieldLink own index "DrainOffice" "kept" "LDrainOffice$Sheet;" ∈ dw_TB) (ht : i + 64 = t) (hdg : decode cc pc = .ok (.getfield index, 3)) (kk : W p l e R s m args below meth c H locs cells slots Q (F0 m (pc + 3) ls (.ref (dw_ad Γ t) :: rest))) : W p l e R s m args below meth c H locs cells slots Q (F0 m pc ls (.ref (dw_ad Γ i) :: rest)) := by
  subst ht
  exact dw_get C0 Z (dw_lt h (by decide)) (dw_cz9 h) rfl tw_u9 1 (by decide) hlink rfl rfl hdg kk
theorem dw_g9_2 (C0 : dw_C Γ p s m args meth c cc nL own) (Z : dw_Z Γ A H0 μ H locs) (h : dw_kd i = 9) (hlink : Cond.fieldLink own index "DrainOffice" "isKept" "Z" ∈ dw_TB) (hdg : decode cc pc = .ok (.getfield index, 3)) (kk : W p l e R s m args below meth c H locs cells slots Q (F0 m (pc + 3) ls (.int (μ.1 i 2) :: rest))) : W p l e R s m args below meth c H locs cells slots Q (F0 m pc ls (.ref (dw_ad Γ i) :: rest)) := by
  exact dw_get C0 Z (dw_lt h (by decide)) (dw_cz9 h) rfl tw_u9 2 (by decide) hlink rfl rfl hdg kk
theorem dw_p9_2 (C0 : dw_C Γ p s m args meth c cc nL own) (Z : dw_Z Γ A H0 μ H locs) (hA : ∀ q, dw_A Γ q → A q) (h : dw_kd i = 9) {x : Int32} (hlink : Cond.fieldLink own index "DrainOffice" "isKept" "Z" ∈ dw_TB) (hz : x = 0 ∨ x = 1) (hdg : decode cc pc = .ok (.putfield index, 3)) (kk : ∀ (ν : dw_M), ν = dw_st μ i 2 x → ∀ (H1 : Heap) (locs1 : List Loc), dw_Z Γ A H0 ν H1 locs1 → W p l e R s m args below meth c H1 locs1 cells slots Q (F0 m (pc + 3) ls rest)) : W p l e R s m args below meth c H locs cells slots Q (F0 m pc ls (.int x :: .ref (dw_ad Γ i) :: rest)) := by
  refine dw_put C0 Z hA (dw_lt h (by decide)) (dw_cz9 h) rfl tw_u9 tyX9_ok nmX9 2 (by decide) hlink rfl rfl (by rcases hz with rfl | rfl <;> rfl) (by rcases hz with rfl | rfl <;> rfl) (Nat.le_of_ble_eq_true rfl) (ν := dw_st μ i 2 x) ?_ (dw_st_ne μ i 2 x) (fun _ _ => rfl) hdg (fun H1 l1 Z1 => kk _ rfl H1 l1 Z1)
  rw [dw_cz9 h, dw_st_at]
  rfl
theorem dw_g9_3 (C0 : dw_C Γ p s m args meth c cc nL own) (Z : dw_Z Γ A H0 μ H locs) (h : dw_kd i = 9) (hlink : Cond.fieldLink own index "DrainOffice" "tried" "LDrainOffice$Water;" ∈ dw_TB) (ht : i + 127 = t) (hdg : decode cc pc = .ok (.getfield index, 3)) (kk : W p l e R s m args below meth c H locs cells slots Q (F0 m (pc + 3) ls (.ref (dw_ad Γ t) :: rest))) : W p l e R s m args below meth c H locs cells slots Q (F0 m pc ls (.ref (dw_ad Γ i) :: rest)) := by
  subst ht
  exact dw_get C0 Z (dw_lt h (by decide)) (dw_cz9 h) rfl tw_u9 3 (by decide) hlink rfl rfl hdg kk
theorem dw_g9_4 (C0 : dw_C Γ p s m args meth c cc nL own) (Z : dw_Z Γ A H0 μ H locs) (h : dw_kd i = 9) (hlink : Cond.fieldLink own index "DrainOffice" "flow" "LDrainOffice$Flow;" ∈ dw_TB) (ht : i + 135 = t) (hdg : decode cc pc = .ok (.getfield index, 3)) (kk : W p l e R s m args below meth c H locs cells slots Q (F0 m (pc + 3) ls (.ref (dw_ad Γ t) :: rest))) : W p l e R s m args below meth c H locs cells slots Q (F0 m pc ls (.ref (dw_ad Γ i) :: rest)) := by
  subst ht
  exact dw_get C0 Z (dw_lt h (by decide)) (dw_cz9 h) rfl tw_u9 4 (by decide) hlink rfl rfl hdg kk
theorem dw_g9_5 (C0 : dw_C Γ p s m args meth c cc nL own) (Z : dw_Z Γ A H0 μ H locs) (h : dw_kd i = 9) (hlink : Cond.fieldLink own index "DrainOffice" "trenches" "LDrainOffice$Trenches;" ∈ dw_TB) (ht : i + 139 = t) (hdg : decode cc pc = .ok (.getfield index, 3)) (kk : W p l e R s m args below meth c H locs cells slots Q (F0 m (pc + 3) ls (.ref (dw_ad Γ t) :: rest))) : W p l e R s m args below meth c H locs cells slots Q (F0 m pc ls (.ref (dw_ad Γ i) :: rest)) := by
  subst ht
  exact dw_get C0 Z (dw_lt h (by decide)) (dw_cz9 h) rfl tw_u9 5 (by decide) hlink rfl rfl hdg kk
theorem dw_g10_0 (C0 : dw_C Γ p s m args meth c cc nL own) (Z : dw_Z Γ A H0 μ H locs) (h : dw_kd i = 10) (hlink : Cond.fieldLink own index "DrainOfficeModel" "now" "[I" ∈ dw_TB) (ht : i + 1 = t) (hdg : decode cc pc = .ok (.getfield index, 3)) (kk : W p l e R s m args below meth c H locs cells slots Q (F0 m (pc + 3) ls (.ref (dw_ad Γ t) :: rest))) : W p l e R s m args below meth c H locs cells slots Q (F0 m pc ls (.ref (dw_ad Γ i) :: rest)) := by
  subst ht
  exact dw_get C0 Z (dw_lt h (by decide)) (dw_cz10 h) rfl tw_u10 0 (by decide) hlink rfl rfl hdg kk
theorem dw_g10_1 (C0 : dw_C Γ p s m args meth c cc nL own) (Z : dw_Z Γ A H0 μ H locs) (h : dw_kd i = 10) (hlink : Cond.fieldLink own index "DrainOfficeModel" "kept" "[I" ∈ dw_TB) (ht : i + 2 = t) (hdg : decode cc pc = .ok (.getfield index, 3)) (kk : W p l e R s m args below meth c H locs cells slots Q (F0 m (pc + 3) ls (.ref (dw_ad Γ t) :: rest))) : W p l e R s m args below meth c H locs cells slots Q (F0 m pc ls (.ref (dw_ad Γ i) :: rest)) := by
  subst ht
  exact dw_get C0 Z (dw_lt h (by decide)) (dw_cz10 h) rfl tw_u10 1 (by decide) hlink rfl rfl hdg kk
theorem dw_g10_2 (C0 : dw_C Γ p s m args meth c cc nL own) (Z : dw_Z Γ A H0 μ H locs) (h : dw_kd i = 10) (hlink : Cond.fieldLink own index "DrainOfficeModel" "tried" "[I" ∈ dw_TB) (ht : i + 3 = t) (hdg : decode cc pc = .ok (.getfield index, 3)) (kk : W p l e R s m args below meth c H locs cells slots Q (F0 m (pc + 3) ls (.ref (dw_ad Γ t) :: rest))) : W p l e R s m args below meth c H locs cells slots Q (F0 m pc ls (.ref (dw_ad Γ i) :: rest)) := by
  subst ht
  exact dw_get C0 Z (dw_lt h (by decide)) (dw_cz10 h) rfl tw_u10 2 (by decide) hlink rfl rfl hdg kk
theorem dw_g10_3 (C0 : dw_C Γ p s m args meth c cc nL own) (Z : dw_Z Γ A H0 μ H locs) (h : dw_kd i = 10) (hlink : Cond.fieldLink own index "DrainOfficeModel" "isKept" "Z" ∈ dw_TB) (hdg : decode cc pc = .ok (.getfield index, 3)) (kk : W p l e R s m args below meth c H locs cells slots Q (F0 m (pc + 3) ls (.int (μ.1 i 3) :: rest))) : W p l e R s m args below meth c H locs cells slots Q (F0 m pc ls (.ref (dw_ad Γ i) :: rest)) := by
  exact dw_get C0 Z (dw_lt h (by decide)) (dw_cz10 h) rfl tw_u10 3 (by decide) hlink rfl rfl hdg kk
theorem dw_p10_3 (C0 : dw_C Γ p s m args meth c cc nL own) (Z : dw_Z Γ A H0 μ H locs) (hA : ∀ q, dw_A Γ q → A q) (h : dw_kd i = 10) {x : Int32} (hlink : Cond.fieldLink own index "DrainOfficeModel" "isKept" "Z" ∈ dw_TB) (hz : x = 0 ∨ x = 1) (hdg : decode cc pc = .ok (.putfield index, 3)) (kk : ∀ (ν : dw_M), ν = dw_st μ i 3 x → ∀ (H1 : Heap) (locs1 : List Loc), dw_Z Γ A H0 ν H1 locs1 → W p l e R s m args below meth c H1 locs1 cells slots Q (F0 m (pc + 3) ls rest)) : W p l e R s m args below meth c H locs cells slots Q (F0 m pc ls (.int x :: .ref (dw_ad Γ i) :: rest)) := by
  refine dw_put C0 Z hA (dw_lt h (by decide)) (dw_cz10 h) rfl tw_u10 tyX10_ok nmX10 3 (by decide) hlink rfl rfl (by rcases hz with rfl | rfl <;> rfl) (by rcases hz with rfl | rfl <;> rfl) (Nat.le_of_ble_eq_true rfl) (ν := dw_st μ i 3 x) ?_ (dw_st_ne μ i 3 x) (fun _ _ => rfl) hdg (fun H1 l1 Z1 => kk _ rfl H1 l1 Z1)
  rw [dw_cz10 h, dw_st_at]
  rfl
theorem dw_g10_4 (C0 : dw_C Γ p s m args meth c cc nL own) (Z : dw_Z Γ A H0 μ H locs) (h : dw_kd i = 10) (hlink : Cond.fieldLink own index "DrainOfficeModel" "heaps" "[I" ∈ dw_TB) (ht : i + 4 = t) (hdg : decode cc pc = .ok (.getfield index, 3)) (kk : W p l e R s m args below meth c H locs cells slots Q (F0 m (pc + 3) ls (.ref (dw_ad Γ t) :: rest))) : W p l e R s m args below meth c H locs cells slots Q (F0 m pc ls (.ref (dw_ad Γ i) :: rest)) := by
  subst ht
  exact dw_get C0 Z (dw_lt h (by decide)) (dw_cz10 h) rfl tw_u10 4 (by decide) hlink rfl rfl hdg kk
theorem dw_g10_5 (C0 : dw_C Γ p s m args meth c cc nL own) (Z : dw_Z Γ A H0 μ H locs) (h : dw_kd i = 10) (hlink : Cond.fieldLink own index "DrainOfficeModel" "pairs" "[I" ∈ dw_TB) (ht : i + 5 = t) (hdg : decode cc pc = .ok (.getfield index, 3)) (kk : W p l e R s m args below meth c H locs cells slots Q (F0 m (pc + 3) ls (.ref (dw_ad Γ t) :: rest))) : W p l e R s m args below meth c H locs cells slots Q (F0 m pc ls (.ref (dw_ad Γ i) :: rest)) := by
  subst ht
  exact dw_get C0 Z (dw_lt h (by decide)) (dw_cz10 h) rfl tw_u10 5 (by decide) hlink rfl rfl hdg kk
theorem dw_g10_6 (C0 : dw_C Γ p s m args meth c cc nL own) (Z : dw_Z Γ A H0 μ H locs) (h : dw_kd i = 10) (hlink : Cond.fieldLink own index "DrainOfficeModel" "pairMany" "I" ∈ dw_TB) (hdg : decode cc pc = .ok (.getfield index, 3)) (kk : W p l e R s m args below meth c H locs cells slots Q (F0 m (pc + 3) ls (.int (μ.1 i 6) :: rest))) : W p l e R s m args below meth c H locs cells slots Q (F0 m pc ls (.ref (dw_ad Γ i) :: rest)) := by
  exact dw_get C0 Z (dw_lt h (by decide)) (dw_cz10 h) rfl tw_u10 6 (by decide) hlink rfl rfl hdg kk
theorem dw_p10_6 (C0 : dw_C Γ p s m args meth c cc nL own) (Z : dw_Z Γ A H0 μ H locs) (hA : ∀ q, dw_A Γ q → A q) (h : dw_kd i = 10) {x : Int32} (hlink : Cond.fieldLink own index "DrainOfficeModel" "pairMany" "I" ∈ dw_TB) (hdg : decode cc pc = .ok (.putfield index, 3)) (kk : ∀ (ν : dw_M), ν = dw_st μ i 6 x → ∀ (H1 : Heap) (locs1 : List Loc), dw_Z Γ A H0 ν H1 locs1 → W p l e R s m args below meth c H1 locs1 cells slots Q (F0 m (pc + 3) ls rest)) : W p l e R s m args below meth c H locs cells slots Q (F0 m pc ls (.int x :: .ref (dw_ad Γ i) :: rest)) := by
  refine dw_put C0 Z hA (dw_lt h (by decide)) (dw_cz10 h) rfl tw_u10 tyX10_ok nmX10 6 (by decide) hlink rfl rfl rfl rfl (Nat.le_of_ble_eq_true rfl) (ν := dw_st μ i 6 x) ?_ (dw_st_ne μ i 6 x) (fun _ _ => rfl) hdg (fun H1 l1 Z1 => kk _ rfl H1 l1 Z1)
  rw [dw_cz10 h, dw_st_at]
  rfl
theorem dw_mmin (C0 : dw_C Γ p s m args meth c cc nL own) (hls : ls.size = nL) (hlink : Cond.methodLink own index Lib.Math.min.name ∈ dw_TB) (hf : 1 ≤ R.frames) (hlo : (rest.map fun v => v.category).sum + 13 ≤ R.locals) (hcs : cells ≤ R.cells ∧ slots ≤ R.slots) {x y : Int32} (hdg : decode cc pc = .ok (.invokestatic index, 3)) (kk : W p l e R s m args below meth c H locs cells slots Q (F0 m (pc + 3) ls (.int (dw_mn x y) :: rest))) : W p l e R s m args below meth c H locs cells slots Q (F0 m pc ls (.int y :: .int x :: rest)) :=
  va_mmin C0.1 C0.2.1 (C0.2.2.1.trans hls.symm) C0.2.2.2.1 (C0.2.2.2.2.1 _ hlink) (C0.2.2.2.2.1 _ tw_sJ9_min_7cf53) (C0.2.2.2.2.1 _ tw_iJ9) (C0.2.2.2.2.1 _ tw_kJ9_min_7cf53) hf hlo hcs.1 hcs.2 hdg kk
theorem dw_mmax (C0 : dw_C Γ p s m args meth c cc nL own) (hls : ls.size = nL) (hlink : Cond.methodLink own index Lib.Math.max.name ∈ dw_TB) (hf : 1 ≤ R.frames) (hlo : (rest.map fun v => v.category).sum + 13 ≤ R.locals) (hcs : cells ≤ R.cells ∧ slots ≤ R.slots) {x y : Int32} (hdg : decode cc pc = .ok (.invokestatic index, 3)) (kk : W p l e R s m args below meth c H locs cells slots Q (F0 m (pc + 3) ls (.int (dw_mx x y) :: rest))) : W p l e R s m args below meth c H locs cells slots Q (F0 m pc ls (.int y :: .int x :: rest)) :=
  va_mmax C0.1 C0.2.1 (C0.2.2.1.trans hls.symm) C0.2.2.2.1 (C0.2.2.2.2.1 _ hlink) (C0.2.2.2.2.1 _ tw_sJ9_max_7cf53) (C0.2.2.2.2.1 _ tw_iJ9) (C0.2.2.2.2.1 _ tw_kJ9_max_7cf53) hf hlo hcs.1 hcs.2 hdg kk
theorem dw_mabs (C0 : dw_C Γ p s m args meth c cc nL own) (hls : ls.size = nL) (hlink : Cond.methodLink own index Lib.Math.abs.name ∈ dw_TB) (hf : 1 ≤ R.frames) (hlo : (rest.map fun v => v.category).sum + 13 ≤ R.locals) (hcs : cells ≤ R.cells ∧ slots ≤ R.slots) {x : Int32} (hdg : decode cc pc = .ok (.invokestatic index, 3)) (kk : W p l e R s m args below meth c H locs cells slots Q (F0 m (pc + 3) ls (.int (dw_ab x) :: rest))) : W p l e R s m args below meth c H locs cells slots Q (F0 m pc ls (.int x :: rest)) :=
  va_mabs C0.1 C0.2.1 (C0.2.2.1.trans hls.symm) C0.2.2.2.1 (C0.2.2.2.2.1 _ hlink) (C0.2.2.2.2.1 _ tw_sJ9_abs_0f7a4) (C0.2.2.2.2.1 _ tw_iJ9) (C0.2.2.2.2.1 _ tw_kJ9_abs_0f7a4) hf hlo hcs.1 hcs.2 hdg kk
end DWB
theorem dw_hX0_plan : yX0_plan.cls = RX0 ∧ yX0_plan.cls ≠ "java/lang/invoke/MethodHandle" ∧ yX0_plan.cls ≠ "java/lang/invoke/VarHandle" ∧ (parseMethodDescriptor yX0_plan.desc).map (fun d => d.parameters.length) = some 1 := by decide +kernel
theorem dw_hX0_planDrains : yX0_planDrains.cls = RX0 ∧ yX0_planDrains.cls ≠ "java/lang/invoke/MethodHandle" ∧ yX0_planDrains.cls ≠ "java/lang/invoke/VarHandle" ∧ (parseMethodDescriptor yX0_planDrains.desc).map (fun d => d.parameters.length) = some 2 := by decide +kernel
theorem dw_hX0_passHour : yX0_passHour.cls = RX0 ∧ yX0_passHour.cls ≠ "java/lang/invoke/MethodHandle" ∧ yX0_passHour.cls ≠ "java/lang/invoke/VarHandle" ∧ (parseMethodDescriptor yX0_passHour.desc).map (fun d => d.parameters.length) = some 2 := by decide +kernel
theorem dw_hX0_wetPlace : yX0_wetPlace.cls = RX0 ∧ yX0_wetPlace.cls ≠ "java/lang/invoke/MethodHandle" ∧ yX0_wetPlace.cls ≠ "java/lang/invoke/VarHandle" ∧ (parseMethodDescriptor yX0_wetPlace.desc).map (fun d => d.parameters.length) = some 3 := by decide +kernel
theorem dw_hX0_drainPlace : yX0_drainPlace.cls = RX0 ∧ yX0_drainPlace.cls ≠ "java/lang/invoke/MethodHandle" ∧ yX0_drainPlace.cls ≠ "java/lang/invoke/VarHandle" ∧ (parseMethodDescriptor yX0_drainPlace.desc).map (fun d => d.parameters.length) = some 3 := by decide +kernel
theorem dw_hX0_isDraining : yX0_isDraining.cls = RX0 ∧ yX0_isDraining.cls ≠ "java/lang/invoke/MethodHandle" ∧ yX0_isDraining.cls ≠ "java/lang/invoke/VarHandle" ∧ (parseMethodDescriptor yX0_isDraining.desc).map (fun d => d.parameters.length) = some 3 := by decide +kernel
theorem dw_hX0_passOn : yX0_passOn.cls = RX0 ∧ yX0_passOn.cls ≠ "java/lang/invoke/MethodHandle" ∧ yX0_passOn.cls ≠ "java/lang/invoke/VarHandle" ∧ (parseMethodDescriptor yX0_passOn.desc).map (fun d => d.parameters.length) = some 3 := by decide +kernel
theorem dw_hX0_mostInto : yX0_mostInto.cls = RX0 ∧ yX0_mostInto.cls ≠ "java/lang/invoke/MethodHandle" ∧ yX0_mostInto.cls ≠ "java/lang/invoke/VarHandle" ∧ (parseMethodDescriptor yX0_mostInto.desc).map (fun d => d.parameters.length) = some 3 := by decide +kernel
theorem dw_hX1_renew : yX1_renew.cls = RX1 ∧ yX1_renew.cls ≠ "java/lang/invoke/MethodHandle" ∧ yX1_renew.cls ≠ "java/lang/invoke/VarHandle" ∧ (parseMethodDescriptor yX1_renew.desc).map (fun d => d.parameters.length) = some 2 := by decide +kernel
theorem dw_hX1_copyFrom : yX1_copyFrom.cls = RX1 ∧ yX1_copyFrom.cls ≠ "java/lang/invoke/MethodHandle" ∧ yX1_copyFrom.cls ≠ "java/lang/invoke/VarHandle" ∧ (parseMethodDescriptor yX1_copyFrom.desc).map (fun d => d.parameters.length) = some 1 := by decide +kernel
theorem dw_hX1_hasPlace : yX1_hasPlace.cls = RX1 ∧ yX1_hasPlace.cls ≠ "java/lang/invoke/MethodHandle" ∧ yX1_hasPlace.cls ≠ "java/lang/invoke/VarHandle" ∧ (parseMethodDescriptor yX1_hasPlace.desc).map (fun d => d.parameters.length) = some 1 := by decide +kernel
theorem dw_hX1_rowOf : yX1_rowOf.cls = RX1 ∧ yX1_rowOf.cls ≠ "java/lang/invoke/MethodHandle" ∧ yX1_rowOf.cls ≠ "java/lang/invoke/VarHandle" ∧ (parseMethodDescriptor yX1_rowOf.desc).map (fun d => d.parameters.length) = some 1 := by decide +kernel
theorem dw_hX1_rowsApart : yX1_rowsApart.cls = RX1 ∧ yX1_rowsApart.cls ≠ "java/lang/invoke/MethodHandle" ∧ yX1_rowsApart.cls ≠ "java/lang/invoke/VarHandle" ∧ (parseMethodDescriptor yX1_rowsApart.desc).map (fun d => d.parameters.length) = some 2 := by decide +kernel
theorem dw_hX1_columnsApart : yX1_columnsApart.cls = RX1 ∧ yX1_columnsApart.cls ≠ "java/lang/invoke/MethodHandle" ∧ yX1_columnsApart.cls ≠ "java/lang/invoke/VarHandle" ∧ (parseMethodDescriptor yX1_columnsApart.desc).map (fun d => d.parameters.length) = some 2 := by decide +kernel
theorem dw_hX1_areInLine : yX1_areInLine.cls = RX1 ∧ yX1_areInLine.cls ≠ "java/lang/invoke/MethodHandle" ∧ yX1_areInLine.cls ≠ "java/lang/invoke/VarHandle" ∧ (parseMethodDescriptor yX1_areInLine.desc).map (fun d => d.parameters.length) = some 2 := by decide +kernel
theorem dw_hX1_coverAt : yX1_coverAt.cls = RX1 ∧ yX1_coverAt.cls ≠ "java/lang/invoke/MethodHandle" ∧ yX1_coverAt.cls ≠ "java/lang/invoke/VarHandle" ∧ (parseMethodDescriptor yX1_coverAt.desc).map (fun d => d.parameters.length) = some 2 := by decide +kernel
theorem dw_hX1_firstBareStep : yX1_firstBareStep.cls = RX1 ∧ yX1_firstBareStep.cls ≠ "java/lang/invoke/MethodHandle" ∧ yX1_firstBareStep.cls ≠ "java/lang/invoke/VarHandle" ∧ (parseMethodDescriptor yX1_firstBareStep.desc).map (fun d => d.parameters.length) = some 1 := by decide +kernel
theorem dw_hX1_isReachedBy : yX1_isReachedBy.cls = RX1 ∧ yX1_isReachedBy.cls ≠ "java/lang/invoke/MethodHandle" ∧ yX1_isReachedBy.cls ≠ "java/lang/invoke/VarHandle" ∧ (parseMethodDescriptor yX1_isReachedBy.desc).map (fun d => d.parameters.length) = some 2 := by decide +kernel
theorem dw_hX1_costBetween : yX1_costBetween.cls = RX1 ∧ yX1_costBetween.cls ≠ "java/lang/invoke/MethodHandle" ∧ yX1_costBetween.cls ≠ "java/lang/invoke/VarHandle" ∧ (parseMethodDescriptor yX1_costBetween.desc).map (fun d => d.parameters.length) = some 2 := by decide +kernel
theorem dw_hX2_has : yX2_has.cls = RX2 ∧ yX2_has.cls ≠ "java/lang/invoke/MethodHandle" ∧ yX2_has.cls ≠ "java/lang/invoke/VarHandle" ∧ (parseMethodDescriptor yX2_has.desc).map (fun d => d.parameters.length) = some 1 := by decide +kernel
theorem dw_hX2_put : yX2_put.cls = RX2 ∧ yX2_put.cls ≠ "java/lang/invoke/MethodHandle" ∧ yX2_put.cls ≠ "java/lang/invoke/VarHandle" ∧ (parseMethodDescriptor yX2_put.desc).map (fun d => d.parameters.length) = some 2 := by decide +kernel
theorem dw_hX2_size : yX2_size.cls = RX2 ∧ yX2_size.cls ≠ "java/lang/invoke/MethodHandle" ∧ yX2_size.cls ≠ "java/lang/invoke/VarHandle" ∧ (parseMethodDescriptor yX2_size.desc).map (fun d => d.parameters.length) = some 0 := by decide +kernel
theorem dw_hX2_clear : yX2_clear.cls = RX2 ∧ yX2_clear.cls ≠ "java/lang/invoke/MethodHandle" ∧ yX2_clear.cls ≠ "java/lang/invoke/VarHandle" ∧ (parseMethodDescriptor yX2_clear.desc).map (fun d => d.parameters.length) = some 0 := by decide +kernel
theorem dw_hX2_copyFrom : yX2_copyFrom.cls = RX2 ∧ yX2_copyFrom.cls ≠ "java/lang/invoke/MethodHandle" ∧ yX2_copyFrom.cls ≠ "java/lang/invoke/VarHandle" ∧ (parseMethodDescriptor yX2_copyFrom.desc).map (fun d => d.parameters.length) = some 1 := by decide +kernel
theorem dw_hX3_set : yX3_set.cls = RX3 ∧ yX3_set.cls ≠ "java/lang/invoke/MethodHandle" ∧ yX3_set.cls ≠ "java/lang/invoke/VarHandle" ∧ (parseMethodDescriptor yX3_set.desc).map (fun d => d.parameters.length) = some 5 := by decide +kernel
theorem dw_hX3_clear : yX3_clear.cls = RX3 ∧ yX3_clear.cls ≠ "java/lang/invoke/MethodHandle" ∧ yX3_clear.cls ≠ "java/lang/invoke/VarHandle" ∧ (parseMethodDescriptor yX3_clear.desc).map (fun d => d.parameters.length) = some 0 := by decide +kernel
theorem dw_hX3_copyFrom : yX3_copyFrom.cls = RX3 ∧ yX3_copyFrom.cls ≠ "java/lang/invoke/MethodHandle" ∧ yX3_copyFrom.cls ≠ "java/lang/invoke/VarHandle" ∧ (parseMethodDescriptor yX3_copyFrom.desc).map (fun d => d.parameters.length) = some 1 := by decide +kernel
theorem dw_hX3_placeAt : yX3_placeAt.cls = RX3 ∧ yX3_placeAt.cls ≠ "java/lang/invoke/MethodHandle" ∧ yX3_placeAt.cls ≠ "java/lang/invoke/VarHandle" ∧ (parseMethodDescriptor yX3_placeAt.desc).map (fun d => d.parameters.length) = some 1 := by decide +kernel
theorem dw_hX3_levelAt : yX3_levelAt.cls = RX3 ∧ yX3_levelAt.cls ≠ "java/lang/invoke/MethodHandle" ∧ yX3_levelAt.cls ≠ "java/lang/invoke/VarHandle" ∧ (parseMethodDescriptor yX3_levelAt.desc).map (fun d => d.parameters.length) = some 1 := by decide +kernel
theorem dw_hX3_stepOn : yX3_stepOn.cls = RX3 ∧ yX3_stepOn.cls ≠ "java/lang/invoke/MethodHandle" ∧ yX3_stepOn.cls ≠ "java/lang/invoke/VarHandle" ∧ (parseMethodDescriptor yX3_stepOn.desc).map (fun d => d.parameters.length) = some 1 := by decide +kernel
theorem dw_hX4_hasPipe : yX4_hasPipe.cls = RX4 ∧ yX4_hasPipe.cls ≠ "java/lang/invoke/MethodHandle" ∧ yX4_hasPipe.cls ≠ "java/lang/invoke/VarHandle" ∧ (parseMethodDescriptor yX4_hasPipe.desc).map (fun d => d.parameters.length) = some 1 := by decide +kernel
theorem dw_hX4_copyFrom : yX4_copyFrom.cls = RX4 ∧ yX4_copyFrom.cls ≠ "java/lang/invoke/MethodHandle" ∧ yX4_copyFrom.cls ≠ "java/lang/invoke/VarHandle" ∧ (parseMethodDescriptor yX4_copyFrom.desc).map (fun d => d.parameters.length) = some 1 := by decide +kernel
theorem dw_hX4_rankOf : yX4_rankOf.cls = RX4 ∧ yX4_rankOf.cls ≠ "java/lang/invoke/MethodHandle" ∧ yX4_rankOf.cls ≠ "java/lang/invoke/VarHandle" ∧ (parseMethodDescriptor yX4_rankOf.desc).map (fun d => d.parameters.length) = some 1 := by decide +kernel
theorem dw_hX4_leadsTo : yX4_leadsTo.cls = RX4 ∧ yX4_leadsTo.cls ≠ "java/lang/invoke/MethodHandle" ∧ yX4_leadsTo.cls ≠ "java/lang/invoke/VarHandle" ∧ (parseMethodDescriptor yX4_leadsTo.desc).map (fun d => d.parameters.length) = some 2 := by decide +kernel
theorem dw_hX4_peakOf : yX4_peakOf.cls = RX4 ∧ yX4_peakOf.cls ≠ "java/lang/invoke/MethodHandle" ∧ yX4_peakOf.cls ≠ "java/lang/invoke/VarHandle" ∧ (parseMethodDescriptor yX4_peakOf.desc).map (fun d => d.parameters.length) = some 1 := by decide +kernel
theorem dw_hX5_lay : yX5_lay.cls = RX5 ∧ yX5_lay.cls ≠ "java/lang/invoke/MethodHandle" ∧ yX5_lay.cls ≠ "java/lang/invoke/VarHandle" ∧ (parseMethodDescriptor yX5_lay.desc).map (fun d => d.parameters.length) = some 3 := by decide +kernel
theorem dw_hX5_copyFrom : yX5_copyFrom.cls = RX5 ∧ yX5_copyFrom.cls ≠ "java/lang/invoke/MethodHandle" ∧ yX5_copyFrom.cls ≠ "java/lang/invoke/VarHandle" ∧ (parseMethodDescriptor yX5_copyFrom.desc).map (fun d => d.parameters.length) = some 1 := by decide +kernel
theorem dw_hX5_isLateral : yX5_isLateral.cls = RX5 ∧ yX5_isLateral.cls ≠ "java/lang/invoke/MethodHandle" ∧ yX5_isLateral.cls ≠ "java/lang/invoke/VarHandle" ∧ (parseMethodDescriptor yX5_isLateral.desc).map (fun d => d.parameters.length) = some 0 := by decide +kernel
theorem dw_hX5_isMain : yX5_isMain.cls = RX5 ∧ yX5_isMain.cls ≠ "java/lang/invoke/MethodHandle" ∧ yX5_isMain.cls ≠ "java/lang/invoke/VarHandle" ∧ (parseMethodDescriptor yX5_isMain.desc).map (fun d => d.parameters.length) = some 0 := by decide +kernel
theorem dw_hX6_copyFrom : yX6_copyFrom.cls = RX6 ∧ yX6_copyFrom.cls ≠ "java/lang/invoke/MethodHandle" ∧ yX6_copyFrom.cls ≠ "java/lang/invoke/VarHandle" ∧ (parseMethodDescriptor yX6_copyFrom.desc).map (fun d => d.parameters.length) = some 1 := by decide +kernel
theorem dw_hX6_isReached : yX6_isReached.cls = RX6 ∧ yX6_isReached.cls ≠ "java/lang/invoke/MethodHandle" ∧ yX6_isReached.cls ≠ "java/lang/invoke/VarHandle" ∧ (parseMethodDescriptor yX6_isReached.desc).map (fun d => d.parameters.length) = some 1 := by decide +kernel
theorem dw_hX6_countUnreached : yX6_countUnreached.cls = RX6 ∧ yX6_countUnreached.cls ≠ "java/lang/invoke/MethodHandle" ∧ yX6_countUnreached.cls ≠ "java/lang/invoke/VarHandle" ∧ (parseMethodDescriptor yX6_countUnreached.desc).map (fun d => d.parameters.length) = some 0 := by decide +kernel
theorem dw_hX7_grow : yX7_grow.cls = RX7 ∧ yX7_grow.cls ≠ "java/lang/invoke/MethodHandle" ∧ yX7_grow.cls ≠ "java/lang/invoke/VarHandle" ∧ (parseMethodDescriptor yX7_grow.desc).map (fun d => d.parameters.length) = some 2 := by decide +kernel
theorem dw_hX7_findLeast : yX7_findLeast.cls = RX7 ∧ yX7_findLeast.cls ≠ "java/lang/invoke/MethodHandle" ∧ yX7_findLeast.cls ≠ "java/lang/invoke/VarHandle" ∧ (parseMethodDescriptor yX7_findLeast.desc).map (fun d => d.parameters.length) = some 2 := by decide +kernel
theorem dw_hX7_offer : yX7_offer.cls = RX7 ∧ yX7_offer.cls ≠ "java/lang/invoke/MethodHandle" ∧ yX7_offer.cls ≠ "java/lang/invoke/VarHandle" ∧ (parseMethodDescriptor yX7_offer.desc).map (fun d => d.parameters.length) = some 3 := by decide +kernel
theorem dw_hX7_joinPieces : yX7_joinPieces.cls = RX7 ∧ yX7_joinPieces.cls ≠ "java/lang/invoke/MethodHandle" ∧ yX7_joinPieces.cls ≠ "java/lang/invoke/VarHandle" ∧ (parseMethodDescriptor yX7_joinPieces.desc).map (fun d => d.parameters.length) = some 0 := by decide +kernel
theorem dw_hX8_clear : yX8_clear.cls = RX8 ∧ yX8_clear.cls ≠ "java/lang/invoke/MethodHandle" ∧ yX8_clear.cls ≠ "java/lang/invoke/VarHandle" ∧ (parseMethodDescriptor yX8_clear.desc).map (fun d => d.parameters.length) = some 0 := by decide +kernel
theorem dw_hX8_copyFrom : yX8_copyFrom.cls = RX8 ∧ yX8_copyFrom.cls ≠ "java/lang/invoke/MethodHandle" ∧ yX8_copyFrom.cls ≠ "java/lang/invoke/VarHandle" ∧ (parseMethodDescriptor yX8_copyFrom.desc).map (fun d => d.parameters.length) = some 1 := by decide +kernel
theorem dw_hX8_putStanding : yX8_putStanding.cls = RX8 ∧ yX8_putStanding.cls ≠ "java/lang/invoke/MethodHandle" ∧ yX8_putStanding.cls ≠ "java/lang/invoke/VarHandle" ∧ (parseMethodDescriptor yX8_putStanding.desc).map (fun d => d.parameters.length) = some 1 := by decide +kernel
theorem dw_hX8_isStandingJustOn : yX8_isStandingJustOn.cls = RX8 ∧ yX8_isStandingJustOn.cls ≠ "java/lang/invoke/MethodHandle" ∧ yX8_isStandingJustOn.cls ≠ "java/lang/invoke/VarHandle" ∧ (parseMethodDescriptor yX8_isStandingJustOn.desc).map (fun d => d.parameters.length) = some 1 := by decide +kernel
theorem dw_hX9_land : yX9_land.cls = RX9 ∧ yX9_land.cls ≠ "java/lang/invoke/MethodHandle" ∧ yX9_land.cls ≠ "java/lang/invoke/VarHandle" ∧ (parseMethodDescriptor yX9_land.desc).map (fun d => d.parameters.length) = some 2 := by decide +kernel
theorem dw_hX9_height : yX9_height.cls = RX9 ∧ yX9_height.cls ≠ "java/lang/invoke/MethodHandle" ∧ yX9_height.cls ≠ "java/lang/invoke/VarHandle" ∧ (parseMethodDescriptor yX9_height.desc).map (fun d => d.parameters.length) = some 2 := by decide +kernel
theorem dw_hX9_soil : yX9_soil.cls = RX9 ∧ yX9_soil.cls ≠ "java/lang/invoke/MethodHandle" ∧ yX9_soil.cls ≠ "java/lang/invoke/VarHandle" ∧ (parseMethodDescriptor yX9_soil.desc).map (fun d => d.parameters.length) = some 2 := by decide +kernel
theorem dw_hX9_soils : yX9_soils.cls = RX9 ∧ yX9_soils.cls ≠ "java/lang/invoke/MethodHandle" ∧ yX9_soils.cls ≠ "java/lang/invoke/VarHandle" ∧ (parseMethodDescriptor yX9_soils.desc).map (fun d => d.parameters.length) = some 5 := by decide +kernel
theorem dw_hX9_ditch : yX9_ditch.cls = RX9 ∧ yX9_ditch.cls ≠ "java/lang/invoke/MethodHandle" ∧ yX9_ditch.cls ≠ "java/lang/invoke/VarHandle" ∧ (parseMethodDescriptor yX9_ditch.desc).map (fun d => d.parameters.length) = some 2 := by decide +kernel
theorem dw_hX9_trench : yX9_trench.cls = RX9 ∧ yX9_trench.cls ≠ "java/lang/invoke/MethodHandle" ∧ yX9_trench.cls ≠ "java/lang/invoke/VarHandle" ∧ (parseMethodDescriptor yX9_trench.desc).map (fun d => d.parameters.length) = some 4 := by decide +kernel
theorem dw_hX9_pipe : yX9_pipe.cls = RX9 ∧ yX9_pipe.cls ≠ "java/lang/invoke/MethodHandle" ∧ yX9_pipe.cls ≠ "java/lang/invoke/VarHandle" ∧ (parseMethodDescriptor yX9_pipe.desc).map (fun d => d.parameters.length) = some 3 := by decide +kernel
theorem dw_hX9_join : yX9_join.cls = RX9 ∧ yX9_join.cls ≠ "java/lang/invoke/MethodHandle" ∧ yX9_join.cls ≠ "java/lang/invoke/VarHandle" ∧ (parseMethodDescriptor yX9_join.desc).map (fun d => d.parameters.length) = some 2 := by decide +kernel
theorem dw_hX9_open : yX9_open.cls = RX9 ∧ yX9_open.cls ≠ "java/lang/invoke/MethodHandle" ∧ yX9_open.cls ≠ "java/lang/invoke/VarHandle" ∧ (parseMethodDescriptor yX9_open.desc).map (fun d => d.parameters.length) = some 2 := by decide +kernel
theorem dw_hX9_part : yX9_part.cls = RX9 ∧ yX9_part.cls ≠ "java/lang/invoke/MethodHandle" ∧ yX9_part.cls ≠ "java/lang/invoke/VarHandle" ∧ (parseMethodDescriptor yX9_part.desc).map (fun d => d.parameters.length) = some 1 := by decide +kernel
theorem dw_hX9_block : yX9_block.cls = RX9 ∧ yX9_block.cls ≠ "java/lang/invoke/MethodHandle" ∧ yX9_block.cls ≠ "java/lang/invoke/VarHandle" ∧ (parseMethodDescriptor yX9_block.desc).map (fun d => d.parameters.length) = some 2 := by decide +kernel
theorem dw_hX9_of : yX9_of.cls = RX9 ∧ yX9_of.cls ≠ "java/lang/invoke/MethodHandle" ∧ yX9_of.cls ≠ "java/lang/invoke/VarHandle" ∧ (parseMethodDescriptor yX9_of.desc).map (fun d => d.parameters.length) = some 2 := by decide +kernel
theorem dw_hX9_step : yX9_step.cls = RX9 ∧ yX9_step.cls ≠ "java/lang/invoke/MethodHandle" ∧ yX9_step.cls ≠ "java/lang/invoke/VarHandle" ∧ (parseMethodDescriptor yX9_step.desc).map (fun d => d.parameters.length) = some 3 := by decide +kernel
theorem dw_hX9_rain : yX9_rain.cls = RX9 ∧ yX9_rain.cls ≠ "java/lang/invoke/MethodHandle" ∧ yX9_rain.cls ≠ "java/lang/invoke/VarHandle" ∧ (parseMethodDescriptor yX9_rain.desc).map (fun d => d.parameters.length) = some 2 := by decide +kernel
theorem dw_hX9_hours : yX9_hours.cls = RX9 ∧ yX9_hours.cls ≠ "java/lang/invoke/MethodHandle" ∧ yX9_hours.cls ≠ "java/lang/invoke/VarHandle" ∧ (parseMethodDescriptor yX9_hours.desc).map (fun d => d.parameters.length) = some 1 := by decide +kernel
theorem dw_hX9_at : yX9_at.cls = RX9 ∧ yX9_at.cls ≠ "java/lang/invoke/MethodHandle" ∧ yX9_at.cls ≠ "java/lang/invoke/VarHandle" ∧ (parseMethodDescriptor yX9_at.desc).map (fun d => d.parameters.length) = some 2 := by decide +kernel
theorem dw_hX9_all : yX9_all.cls = RX9 ∧ yX9_all.cls ≠ "java/lang/invoke/MethodHandle" ∧ yX9_all.cls ≠ "java/lang/invoke/VarHandle" ∧ (parseMethodDescriptor yX9_all.desc).map (fun d => d.parameters.length) = some 1 := by decide +kernel
theorem dw_hX9_many : yX9_many.cls = RX9 ∧ yX9_many.cls ≠ "java/lang/invoke/MethodHandle" ∧ yX9_many.cls ≠ "java/lang/invoke/VarHandle" ∧ (parseMethodDescriptor yX9_many.desc).map (fun d => d.parameters.length) = some 1 := by decide +kernel
theorem dw_hX9_dry : yX9_dry.cls = RX9 ∧ yX9_dry.cls ≠ "java/lang/invoke/MethodHandle" ∧ yX9_dry.cls ≠ "java/lang/invoke/VarHandle" ∧ (parseMethodDescriptor yX9_dry.desc).map (fun d => d.parameters.length) = some 1 := by decide +kernel
theorem dw_hX9_mark : yX9_mark.cls = RX9 ∧ yX9_mark.cls ≠ "java/lang/invoke/MethodHandle" ∧ yX9_mark.cls ≠ "java/lang/invoke/VarHandle" ∧ (parseMethodDescriptor yX9_mark.desc).map (fun d => d.parameters.length) = some 2 := by decide +kernel
theorem dw_hX9_tree : yX9_tree.cls = RX9 ∧ yX9_tree.cls ≠ "java/lang/invoke/MethodHandle" ∧ yX9_tree.cls ≠ "java/lang/invoke/VarHandle" ∧ (parseMethodDescriptor yX9_tree.desc).map (fun d => d.parameters.length) = some 0 := by decide +kernel
theorem dw_hX9_pair : yX9_pair.cls = RX9 ∧ yX9_pair.cls ≠ "java/lang/invoke/MethodHandle" ∧ yX9_pair.cls ≠ "java/lang/invoke/VarHandle" ∧ (parseMethodDescriptor yX9_pair.desc).map (fun d => d.parameters.length) = some 1 := by decide +kernel
theorem dw_hX9_sight : yX9_sight.cls = RX9 ∧ yX9_sight.cls ≠ "java/lang/invoke/MethodHandle" ∧ yX9_sight.cls ≠ "java/lang/invoke/VarHandle" ∧ (parseMethodDescriptor yX9_sight.desc).map (fun d => d.parameters.length) = some 2 := by decide +kernel
theorem dw_hX9_see : yX9_see.cls = RX9 ∧ yX9_see.cls ≠ "java/lang/invoke/MethodHandle" ∧ yX9_see.cls ≠ "java/lang/invoke/VarHandle" ∧ (parseMethodDescriptor yX9_see.desc).map (fun d => d.parameters.length) = some 0 := by decide +kernel
theorem dw_hX9_where : yX9_where.cls = RX9 ∧ yX9_where.cls ≠ "java/lang/invoke/MethodHandle" ∧ yX9_where.cls ≠ "java/lang/invoke/VarHandle" ∧ (parseMethodDescriptor yX9_where.desc).map (fun d => d.parameters.length) = some 2 := by decide +kernel
theorem dw_hX9_pairWhere : yX9_pairWhere.cls = RX9 ∧ yX9_pairWhere.cls ≠ "java/lang/invoke/MethodHandle" ∧ yX9_pairWhere.cls ≠ "java/lang/invoke/VarHandle" ∧ (parseMethodDescriptor yX9_pairWhere.desc).map (fun d => d.parameters.length) = some 2 := by decide +kernel
theorem dw_hX9_fits : yX9_fits.cls = RX9 ∧ yX9_fits.cls ≠ "java/lang/invoke/MethodHandle" ∧ yX9_fits.cls ≠ "java/lang/invoke/VarHandle" ∧ (parseMethodDescriptor yX9_fits.desc).map (fun d => d.parameters.length) = some 3 := by decide +kernel
theorem dw_hX9_blockTried : yX9_blockTried.cls = RX9 ∧ yX9_blockTried.cls ≠ "java/lang/invoke/MethodHandle" ∧ yX9_blockTried.cls ≠ "java/lang/invoke/VarHandle" ∧ (parseMethodDescriptor yX9_blockTried.desc).map (fun d => d.parameters.length) = some 1 := by decide +kernel
theorem dw_hX9_keep : yX9_keep.cls = RX9 ∧ yX9_keep.cls ≠ "java/lang/invoke/MethodHandle" ∧ yX9_keep.cls ≠ "java/lang/invoke/VarHandle" ∧ (parseMethodDescriptor yX9_keep.desc).map (fun d => d.parameters.length) = some 0 := by decide +kernel
theorem dw_hX9_back : yX9_back.cls = RX9 ∧ yX9_back.cls ≠ "java/lang/invoke/MethodHandle" ∧ yX9_back.cls ≠ "java/lang/invoke/VarHandle" ∧ (parseMethodDescriptor yX9_back.desc).map (fun d => d.parameters.length) = some 0 := by decide +kernel
theorem dw_hX9_isWithin : yX9_isWithin.cls ≠ "java/lang/invoke/MethodHandle" ∧ yX9_isWithin.cls ≠ "java/lang/invoke/VarHandle" ∧ (parseMethodDescriptor yX9_isWithin.desc).map (fun d => d.parameters.length) = some 3 := by decide +kernel
theorem dw_hX9_isSoil : yX9_isSoil.cls ≠ "java/lang/invoke/MethodHandle" ∧ yX9_isSoil.cls ≠ "java/lang/invoke/VarHandle" ∧ (parseMethodDescriptor yX9_isSoil.desc).map (fun d => d.parameters.length) = some 1 := by decide +kernel
theorem dw_hX9_isDitch : yX9_isDitch.cls ≠ "java/lang/invoke/MethodHandle" ∧ yX9_isDitch.cls ≠ "java/lang/invoke/VarHandle" ∧ (parseMethodDescriptor yX9_isDitch.desc).map (fun d => d.parameters.length) = some 1 := by decide +kernel
theorem dw_hX9_numberAt : yX9_numberAt.cls ≠ "java/lang/invoke/MethodHandle" ∧ yX9_numberAt.cls ≠ "java/lang/invoke/VarHandle" ∧ (parseMethodDescriptor yX9_numberAt.desc).map (fun d => d.parameters.length) = some 2 := by decide +kernel
theorem dw_hX9_sum : yX9_sum.cls ≠ "java/lang/invoke/MethodHandle" ∧ yX9_sum.cls ≠ "java/lang/invoke/VarHandle" ∧ (parseMethodDescriptor yX9_sum.desc).map (fun d => d.parameters.length) = some 1 := by decide +kernel
theorem dw_hX9_fill : yX9_fill.cls ≠ "java/lang/invoke/MethodHandle" ∧ yX9_fill.cls ≠ "java/lang/invoke/VarHandle" ∧ (parseMethodDescriptor yX9_fill.desc).map (fun d => d.parameters.length) = some 2 := by decide +kernel
theorem dw_hX9_copy : yX9_copy.cls ≠ "java/lang/invoke/MethodHandle" ∧ yX9_copy.cls ≠ "java/lang/invoke/VarHandle" ∧ (parseMethodDescriptor yX9_copy.desc).map (fun d => d.parameters.length) = some 2 := by decide +kernel
theorem dw_hX10_in : yX10_in.cls ≠ "java/lang/invoke/MethodHandle" ∧ yX10_in.cls ≠ "java/lang/invoke/VarHandle" ∧ (parseMethodDescriptor yX10_in.desc).map (fun d => d.parameters.length) = some 3 := by decide +kernel
theorem dw_hX10_places : yX10_places.cls = RX10 ∧ yX10_places.cls ≠ "java/lang/invoke/MethodHandle" ∧ yX10_places.cls ≠ "java/lang/invoke/VarHandle" ∧ (parseMethodDescriptor yX10_places.desc).map (fun d => d.parameters.length) = some 0 := by decide +kernel
theorem dw_hX10_isPlace : yX10_isPlace.cls = RX10 ∧ yX10_isPlace.cls ≠ "java/lang/invoke/MethodHandle" ∧ yX10_isPlace.cls ≠ "java/lang/invoke/VarHandle" ∧ (parseMethodDescriptor yX10_isPlace.desc).map (fun d => d.parameters.length) = some 1 := by decide +kernel
theorem dw_hX10_isPipe : yX10_isPipe.cls = RX10 ∧ yX10_isPipe.cls ≠ "java/lang/invoke/MethodHandle" ∧ yX10_isPipe.cls ≠ "java/lang/invoke/VarHandle" ∧ (parseMethodDescriptor yX10_isPipe.desc).map (fun d => d.parameters.length) = some 1 := by decide +kernel
theorem dw_hX10_pipeOf : yX10_pipeOf.cls = RX10 ∧ yX10_pipeOf.cls ≠ "java/lang/invoke/MethodHandle" ∧ yX10_pipeOf.cls ≠ "java/lang/invoke/VarHandle" ∧ (parseMethodDescriptor yX10_pipeOf.desc).map (fun d => d.parameters.length) = some 2 := by decide +kernel
theorem dw_hX10_setPipe : yX10_setPipe.cls = RX10 ∧ yX10_setPipe.cls ≠ "java/lang/invoke/MethodHandle" ∧ yX10_setPipe.cls ≠ "java/lang/invoke/VarHandle" ∧ (parseMethodDescriptor yX10_setPipe.desc).map (fun d => d.parameters.length) = some 3 := by decide +kernel
theorem dw_hX10_rowOf : yX10_rowOf.cls = RX10 ∧ yX10_rowOf.cls ≠ "java/lang/invoke/MethodHandle" ∧ yX10_rowOf.cls ≠ "java/lang/invoke/VarHandle" ∧ (parseMethodDescriptor yX10_rowOf.desc).map (fun d => d.parameters.length) = some 1 := by decide +kernel
theorem dw_hX10_columnOf : yX10_columnOf.cls = RX10 ∧ yX10_columnOf.cls ≠ "java/lang/invoke/MethodHandle" ∧ yX10_columnOf.cls ≠ "java/lang/invoke/VarHandle" ∧ (parseMethodDescriptor yX10_columnOf.desc).map (fun d => d.parameters.length) = some 1 := by decide +kernel
theorem dw_hX10_size : yX10_size.cls ≠ "java/lang/invoke/MethodHandle" ∧ yX10_size.cls ≠ "java/lang/invoke/VarHandle" ∧ (parseMethodDescriptor yX10_size.desc).map (fun d => d.parameters.length) = some 1 := by decide +kernel
theorem dw_hX10_lesser : yX10_lesser.cls ≠ "java/lang/invoke/MethodHandle" ∧ yX10_lesser.cls ≠ "java/lang/invoke/VarHandle" ∧ (parseMethodDescriptor yX10_lesser.desc).map (fun d => d.parameters.length) = some 2 := by decide +kernel
theorem dw_hX10_land : yX10_land.cls = RX10 ∧ yX10_land.cls ≠ "java/lang/invoke/MethodHandle" ∧ yX10_land.cls ≠ "java/lang/invoke/VarHandle" ∧ (parseMethodDescriptor yX10_land.desc).map (fun d => d.parameters.length) = some 2 := by decide +kernel
theorem dw_hX10_height : yX10_height.cls = RX10 ∧ yX10_height.cls ≠ "java/lang/invoke/MethodHandle" ∧ yX10_height.cls ≠ "java/lang/invoke/VarHandle" ∧ (parseMethodDescriptor yX10_height.desc).map (fun d => d.parameters.length) = some 2 := by decide +kernel
theorem dw_hX10_soil : yX10_soil.cls = RX10 ∧ yX10_soil.cls ≠ "java/lang/invoke/MethodHandle" ∧ yX10_soil.cls ≠ "java/lang/invoke/VarHandle" ∧ (parseMethodDescriptor yX10_soil.desc).map (fun d => d.parameters.length) = some 2 := by decide +kernel
theorem dw_hX10_soils : yX10_soils.cls = RX10 ∧ yX10_soils.cls ≠ "java/lang/invoke/MethodHandle" ∧ yX10_soils.cls ≠ "java/lang/invoke/VarHandle" ∧ (parseMethodDescriptor yX10_soils.desc).map (fun d => d.parameters.length) = some 5 := by decide +kernel
theorem dw_hX10_soilOf : yX10_soilOf.cls = RX10 ∧ yX10_soilOf.cls ≠ "java/lang/invoke/MethodHandle" ∧ yX10_soilOf.cls ≠ "java/lang/invoke/VarHandle" ∧ (parseMethodDescriptor yX10_soilOf.desc).map (fun d => d.parameters.length) = some 2 := by decide +kernel
theorem dw_hX10_ditch : yX10_ditch.cls = RX10 ∧ yX10_ditch.cls ≠ "java/lang/invoke/MethodHandle" ∧ yX10_ditch.cls ≠ "java/lang/invoke/VarHandle" ∧ (parseMethodDescriptor yX10_ditch.desc).map (fun d => d.parameters.length) = some 2 := by decide +kernel
theorem dw_hX10_trench : yX10_trench.cls = RX10 ∧ yX10_trench.cls ≠ "java/lang/invoke/MethodHandle" ∧ yX10_trench.cls ≠ "java/lang/invoke/VarHandle" ∧ (parseMethodDescriptor yX10_trench.desc).map (fun d => d.parameters.length) = some 4 := by decide +kernel
theorem dw_hX10_placeAt : yX10_placeAt.cls = RX10 ∧ yX10_placeAt.cls ≠ "java/lang/invoke/MethodHandle" ∧ yX10_placeAt.cls ≠ "java/lang/invoke/VarHandle" ∧ (parseMethodDescriptor yX10_placeAt.desc).map (fun d => d.parameters.length) = some 3 := by decide +kernel
theorem dw_hX10_pipe : yX10_pipe.cls = RX10 ∧ yX10_pipe.cls ≠ "java/lang/invoke/MethodHandle" ∧ yX10_pipe.cls ≠ "java/lang/invoke/VarHandle" ∧ (parseMethodDescriptor yX10_pipe.desc).map (fun d => d.parameters.length) = some 3 := by decide +kernel
theorem dw_hX10_stepPlace : yX10_stepPlace.cls = RX10 ∧ yX10_stepPlace.cls ≠ "java/lang/invoke/MethodHandle" ∧ yX10_stepPlace.cls ≠ "java/lang/invoke/VarHandle" ∧ (parseMethodDescriptor yX10_stepPlace.desc).map (fun d => d.parameters.length) = some 2 := by decide +kernel
theorem dw_hX10_levelAt : yX10_levelAt.cls = RX10 ∧ yX10_levelAt.cls ≠ "java/lang/invoke/MethodHandle" ∧ yX10_levelAt.cls ≠ "java/lang/invoke/VarHandle" ∧ (parseMethodDescriptor yX10_levelAt.desc).map (fun d => d.parameters.length) = some 2 := by decide +kernel
theorem dw_hX10_stepOf : yX10_stepOf.cls = RX10 ∧ yX10_stepOf.cls ≠ "java/lang/invoke/MethodHandle" ∧ yX10_stepOf.cls ≠ "java/lang/invoke/VarHandle" ∧ (parseMethodDescriptor yX10_stepOf.desc).map (fun d => d.parameters.length) = some 2 := by decide +kernel
theorem dw_hX10_rank : yX10_rank.cls = RX10 ∧ yX10_rank.cls ≠ "java/lang/invoke/MethodHandle" ∧ yX10_rank.cls ≠ "java/lang/invoke/VarHandle" ∧ (parseMethodDescriptor yX10_rank.desc).map (fun d => d.parameters.length) = some 1 := by decide +kernel
theorem dw_hX10_join : yX10_join.cls = RX10 ∧ yX10_join.cls ≠ "java/lang/invoke/MethodHandle" ∧ yX10_join.cls ≠ "java/lang/invoke/VarHandle" ∧ (parseMethodDescriptor yX10_join.desc).map (fun d => d.parameters.length) = some 2 := by decide +kernel
theorem dw_hX10_open : yX10_open.cls = RX10 ∧ yX10_open.cls ≠ "java/lang/invoke/MethodHandle" ∧ yX10_open.cls ≠ "java/lang/invoke/VarHandle" ∧ (parseMethodDescriptor yX10_open.desc).map (fun d => d.parameters.length) = some 2 := by decide +kernel
theorem dw_hX10_part : yX10_part.cls = RX10 ∧ yX10_part.cls ≠ "java/lang/invoke/MethodHandle" ∧ yX10_part.cls ≠ "java/lang/invoke/VarHandle" ∧ (parseMethodDescriptor yX10_part.desc).map (fun d => d.parameters.length) = some 1 := by decide +kernel
theorem dw_hX10_block : yX10_block.cls = RX10 ∧ yX10_block.cls ≠ "java/lang/invoke/MethodHandle" ∧ yX10_block.cls ≠ "java/lang/invoke/VarHandle" ∧ (parseMethodDescriptor yX10_block.desc).map (fun d => d.parameters.length) = some 2 := by decide +kernel
theorem dw_hX10_bears : yX10_bears.cls = RX10 ∧ yX10_bears.cls ≠ "java/lang/invoke/MethodHandle" ∧ yX10_bears.cls ≠ "java/lang/invoke/VarHandle" ∧ (parseMethodDescriptor yX10_bears.desc).map (fun d => d.parameters.length) = some 1 := by decide +kernel
theorem dw_hX10_holds : yX10_holds.cls = RX10 ∧ yX10_holds.cls ≠ "java/lang/invoke/MethodHandle" ∧ yX10_holds.cls ≠ "java/lang/invoke/VarHandle" ∧ (parseMethodDescriptor yX10_holds.desc).map (fun d => d.parameters.length) = some 1 := by decide +kernel
theorem dw_hX10_peak : yX10_peak.cls = RX10 ∧ yX10_peak.cls ≠ "java/lang/invoke/MethodHandle" ∧ yX10_peak.cls ≠ "java/lang/invoke/VarHandle" ∧ (parseMethodDescriptor yX10_peak.desc).map (fun d => d.parameters.length) = some 1 := by decide +kernel
theorem dw_hX10_of : yX10_of.cls = RX10 ∧ yX10_of.cls ≠ "java/lang/invoke/MethodHandle" ∧ yX10_of.cls ≠ "java/lang/invoke/VarHandle" ∧ (parseMethodDescriptor yX10_of.desc).map (fun d => d.parameters.length) = some 2 := by decide +kernel
theorem dw_hX10_step : yX10_step.cls = RX10 ∧ yX10_step.cls ≠ "java/lang/invoke/MethodHandle" ∧ yX10_step.cls ≠ "java/lang/invoke/VarHandle" ∧ (parseMethodDescriptor yX10_step.desc).map (fun d => d.parameters.length) = some 3 := by decide +kernel
theorem dw_hX10_rain : yX10_rain.cls = RX10 ∧ yX10_rain.cls ≠ "java/lang/invoke/MethodHandle" ∧ yX10_rain.cls ≠ "java/lang/invoke/VarHandle" ∧ (parseMethodDescriptor yX10_rain.desc).map (fun d => d.parameters.length) = some 2 := by decide +kernel
theorem dw_hX10_fall : yX10_fall.cls = RX10 ∧ yX10_fall.cls ≠ "java/lang/invoke/MethodHandle" ∧ yX10_fall.cls ≠ "java/lang/invoke/VarHandle" ∧ (parseMethodDescriptor yX10_fall.desc).map (fun d => d.parameters.length) = some 0 := by decide +kernel
theorem dw_hX10_isLateral : yX10_isLateral.cls = RX10 ∧ yX10_isLateral.cls ≠ "java/lang/invoke/MethodHandle" ∧ yX10_isLateral.cls ≠ "java/lang/invoke/VarHandle" ∧ (parseMethodDescriptor yX10_isLateral.desc).map (fun d => d.parameters.length) = some 1 := by decide +kernel
theorem dw_hX10_seep : yX10_seep.cls = RX10 ∧ yX10_seep.cls ≠ "java/lang/invoke/MethodHandle" ∧ yX10_seep.cls ≠ "java/lang/invoke/VarHandle" ∧ (parseMethodDescriptor yX10_seep.desc).map (fun d => d.parameters.length) = some 0 := by decide +kernel
theorem dw_hX10_pass : yX10_pass.cls = RX10 ∧ yX10_pass.cls ≠ "java/lang/invoke/MethodHandle" ∧ yX10_pass.cls ≠ "java/lang/invoke/VarHandle" ∧ (parseMethodDescriptor yX10_pass.desc).map (fun d => d.parameters.length) = some 1 := by decide +kernel
theorem dw_hX10_hour : yX10_hour.cls = RX10 ∧ yX10_hour.cls ≠ "java/lang/invoke/MethodHandle" ∧ yX10_hour.cls ≠ "java/lang/invoke/VarHandle" ∧ (parseMethodDescriptor yX10_hour.desc).map (fun d => d.parameters.length) = some 0 := by decide +kernel
theorem dw_hX10_hours : yX10_hours.cls = RX10 ∧ yX10_hours.cls ≠ "java/lang/invoke/MethodHandle" ∧ yX10_hours.cls ≠ "java/lang/invoke/VarHandle" ∧ (parseMethodDescriptor yX10_hours.desc).map (fun d => d.parameters.length) = some 1 := by decide +kernel
theorem dw_hX10_isReached : yX10_isReached.cls = RX10 ∧ yX10_isReached.cls ≠ "java/lang/invoke/MethodHandle" ∧ yX10_isReached.cls ≠ "java/lang/invoke/VarHandle" ∧ (parseMethodDescriptor yX10_isReached.desc).map (fun d => d.parameters.length) = some 1 := by decide +kernel
theorem dw_hX10_at : yX10_at.cls = RX10 ∧ yX10_at.cls ≠ "java/lang/invoke/MethodHandle" ∧ yX10_at.cls ≠ "java/lang/invoke/VarHandle" ∧ (parseMethodDescriptor yX10_at.desc).map (fun d => d.parameters.length) = some 2 := by decide +kernel
theorem dw_hX10_sum : yX10_sum.cls = RX10 ∧ yX10_sum.cls ≠ "java/lang/invoke/MethodHandle" ∧ yX10_sum.cls ≠ "java/lang/invoke/VarHandle" ∧ (parseMethodDescriptor yX10_sum.desc).map (fun d => d.parameters.length) = some 1 := by decide +kernel
theorem dw_hX10_sumOfPipes : yX10_sumOfPipes.cls = RX10 ∧ yX10_sumOfPipes.cls ≠ "java/lang/invoke/MethodHandle" ∧ yX10_sumOfPipes.cls ≠ "java/lang/invoke/VarHandle" ∧ (parseMethodDescriptor yX10_sumOfPipes.desc).map (fun d => d.parameters.length) = some 1 := by decide +kernel
theorem dw_hX10_all : yX10_all.cls = RX10 ∧ yX10_all.cls ≠ "java/lang/invoke/MethodHandle" ∧ yX10_all.cls ≠ "java/lang/invoke/VarHandle" ∧ (parseMethodDescriptor yX10_all.desc).map (fun d => d.parameters.length) = some 1 := by decide +kernel
theorem dw_hX10_dryMany : yX10_dryMany.cls = RX10 ∧ yX10_dryMany.cls ≠ "java/lang/invoke/MethodHandle" ∧ yX10_dryMany.cls ≠ "java/lang/invoke/VarHandle" ∧ (parseMethodDescriptor yX10_dryMany.desc).map (fun d => d.parameters.length) = some 0 := by decide +kernel
theorem dw_hX10_many : yX10_many.cls = RX10 ∧ yX10_many.cls ≠ "java/lang/invoke/MethodHandle" ∧ yX10_many.cls ≠ "java/lang/invoke/VarHandle" ∧ (parseMethodDescriptor yX10_many.desc).map (fun d => d.parameters.length) = some 1 := by decide +kernel
theorem dw_hX10_dry : yX10_dry.cls = RX10 ∧ yX10_dry.cls ≠ "java/lang/invoke/MethodHandle" ∧ yX10_dry.cls ≠ "java/lang/invoke/VarHandle" ∧ (parseMethodDescriptor yX10_dry.desc).map (fun d => d.parameters.length) = some 1 := by decide +kernel
theorem dw_hX10_set : yX10_set.cls = RX10 ∧ yX10_set.cls ≠ "java/lang/invoke/MethodHandle" ∧ yX10_set.cls ≠ "java/lang/invoke/VarHandle" ∧ (parseMethodDescriptor yX10_set.desc).map (fun d => d.parameters.length) = some 3 := by decide +kernel
theorem dw_hX10_mark : yX10_mark.cls = RX10 ∧ yX10_mark.cls ≠ "java/lang/invoke/MethodHandle" ∧ yX10_mark.cls ≠ "java/lang/invoke/VarHandle" ∧ (parseMethodDescriptor yX10_mark.desc).map (fun d => d.parameters.length) = some 2 := by decide +kernel
theorem dw_hX10_cost : yX10_cost.cls = RX10 ∧ yX10_cost.cls ≠ "java/lang/invoke/MethodHandle" ∧ yX10_cost.cls ≠ "java/lang/invoke/VarHandle" ∧ (parseMethodDescriptor yX10_cost.desc).map (fun d => d.parameters.length) = some 2 := by decide +kernel
theorem dw_hX10_takePair : yX10_takePair.cls = RX10 ∧ yX10_takePair.cls ≠ "java/lang/invoke/MethodHandle" ∧ yX10_takePair.cls ≠ "java/lang/invoke/VarHandle" ∧ (parseMethodDescriptor yX10_takePair.desc).map (fun d => d.parameters.length) = some 0 := by decide +kernel
theorem dw_hX10_findTree : yX10_findTree.cls = RX10 ∧ yX10_findTree.cls ≠ "java/lang/invoke/MethodHandle" ∧ yX10_findTree.cls ≠ "java/lang/invoke/VarHandle" ∧ (parseMethodDescriptor yX10_findTree.desc).map (fun d => d.parameters.length) = some 0 := by decide +kernel
theorem dw_hX10_tree : yX10_tree.cls = RX10 ∧ yX10_tree.cls ≠ "java/lang/invoke/MethodHandle" ∧ yX10_tree.cls ≠ "java/lang/invoke/VarHandle" ∧ (parseMethodDescriptor yX10_tree.desc).map (fun d => d.parameters.length) = some 0 := by decide +kernel
theorem dw_hX10_pair : yX10_pair.cls = RX10 ∧ yX10_pair.cls ≠ "java/lang/invoke/MethodHandle" ∧ yX10_pair.cls ≠ "java/lang/invoke/VarHandle" ∧ (parseMethodDescriptor yX10_pair.desc).map (fun d => d.parameters.length) = some 1 := by decide +kernel
theorem dw_hX10_sight : yX10_sight.cls = RX10 ∧ yX10_sight.cls ≠ "java/lang/invoke/MethodHandle" ∧ yX10_sight.cls ≠ "java/lang/invoke/VarHandle" ∧ (parseMethodDescriptor yX10_sight.desc).map (fun d => d.parameters.length) = some 2 := by decide +kernel
theorem dw_hX10_see : yX10_see.cls = RX10 ∧ yX10_see.cls ≠ "java/lang/invoke/MethodHandle" ∧ yX10_see.cls ≠ "java/lang/invoke/VarHandle" ∧ (parseMethodDescriptor yX10_see.desc).map (fun d => d.parameters.length) = some 0 := by decide +kernel
theorem dw_hX10_copy : yX10_copy.cls ≠ "java/lang/invoke/MethodHandle" ∧ yX10_copy.cls ≠ "java/lang/invoke/VarHandle" ∧ (parseMethodDescriptor yX10_copy.desc).map (fun d => d.parameters.length) = some 2 := by decide +kernel
theorem dw_hX10_fits : yX10_fits.cls = RX10 ∧ yX10_fits.cls ≠ "java/lang/invoke/MethodHandle" ∧ yX10_fits.cls ≠ "java/lang/invoke/VarHandle" ∧ (parseMethodDescriptor yX10_fits.desc).map (fun d => d.parameters.length) = some 3 := by decide +kernel
theorem dw_hX10_where : yX10_where.cls = RX10 ∧ yX10_where.cls ≠ "java/lang/invoke/MethodHandle" ∧ yX10_where.cls ≠ "java/lang/invoke/VarHandle" ∧ (parseMethodDescriptor yX10_where.desc).map (fun d => d.parameters.length) = some 2 := by decide +kernel
theorem dw_hX10_keep : yX10_keep.cls = RX10 ∧ yX10_keep.cls ≠ "java/lang/invoke/MethodHandle" ∧ yX10_keep.cls ≠ "java/lang/invoke/VarHandle" ∧ (parseMethodDescriptor yX10_keep.desc).map (fun d => d.parameters.length) = some 0 := by decide +kernel
theorem dw_hX10_back : yX10_back.cls = RX10 ∧ yX10_back.cls ≠ "java/lang/invoke/MethodHandle" ∧ yX10_back.cls ≠ "java/lang/invoke/VarHandle" ∧ (parseMethodDescriptor yX10_back.desc).map (fun d => d.parameters.length) = some 0 := by decide +kernel
theorem dw_hJ13_bitCount_95d88 : yJ13_bitCount_95d88.cls ≠ "java/lang/invoke/MethodHandle" ∧ yJ13_bitCount_95d88.cls ≠ "java/lang/invoke/VarHandle" ∧ (parseMethodDescriptor yJ13_bitCount_95d88.desc).map (fun d => d.parameters.length) = some 1 := by decide +kernel
