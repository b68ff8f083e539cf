/-! the start, and all calls -/
theorem st_z {c k : Nat} (h : dw_kd c ≠ 1) (h2 : c ≠ 143) : dn_μ.1 c k = 0 := by
  unfold dn_μ
  rw [pb_o (Or.inl h2), pb_o (Or.inl h2)]
  show (if dw_kd c = 1 ∧ k < 2 then (1 : Int32) else 0) = 0
  rw [if_neg (fun z => h z.1)]
theorem st_m {k : Nat} (h : 2 ≤ k) : dn_μ.1 143 k = 0 := by
  unfold dn_μ
  rw [pb_o (Or.inr (by omega)), pb_o (Or.inr (by omega))]
  show (if dw_kd 143 = 1 ∧ k < 2 then (1 : Int32) else 0) = 0
  rw [if_neg (fun z => absurd z.2 (by omega))]
theorem ok_start : pl_G 0 dn_μ := by
  have z3 : ∀ k, dn_μ.1 3 k = 0 := fun k => st_z (by decide +kernel) (by decide)
  have z4 : ∀ k, dn_μ.1 4 k = 0 := fun k => st_z (by decide +kernel) (by decide)
  have z5 : ∀ k, dn_μ.1 5 k = 0 := fun k => st_z (by decide +kernel) (by decide)
  have z6 : ∀ k, dn_μ.1 6 k = 0 := fun k => st_z (by decide +kernel) (by decide)
  have z7 : ∀ k, dn_μ.1 7 k = 0 := fun k => st_z (by decide +kernel) (by decide)
  have z8 : ∀ k, dn_μ.1 8 k = 0 := fun k => st_z (by decide +kernel) (by decide)
  have z9 : ∀ k, dn_μ.1 9 k = 0 := fun k => st_z (by decide +kernel) (by decide)
  have z10 : ∀ k, dn_μ.1 10 k = 0 := fun k => st_z (by decide +kernel) (by decide)
  have z11 : ∀ k, dn_μ.1 11 k = 0 := fun k => st_z (by decide +kernel) (by decide)
  have z53 : ∀ k, dn_μ.1 53 k = 0 := fun k => st_z (by decide +kernel) (by decide)
  have z54 : ∀ k, dn_μ.1 54 k = 0 := fun k => st_z (by decide +kernel) (by decide)
  have z55 : ∀ k, dn_μ.1 55 k = 0 := fun k => st_z (by decide +kernel) (by decide)
  have z56 : ∀ k, dn_μ.1 56 k = 0 := fun k => st_z (by decide +kernel) (by decide)
  have z57 : ∀ k, dn_μ.1 57 k = 0 := fun k => st_z (by decide +kernel) (by decide)
  have z58 : ∀ k, dn_μ.1 58 k = 0 := fun k => st_z (by decide +kernel) (by decide)
  have z59 : ∀ k, dn_μ.1 59 k = 0 := fun k => st_z (by decide +kernel) (by decide)
  have z61 : ∀ k, dn_μ.1 61 k = 0 := fun k => st_z (by decide +kernel) (by decide)
  have z0 : ∀ k, dn_μ.1 0 k = 0 := fun k => st_z (by decide +kernel) (by decide)
  have z143 : ∀ k, dn_μ.1 142 k = 0 := fun k => st_z (by decide +kernel) (by decide)
  have n0 : (0 : Int32) = nI 0 := rfl
  refine ⟨⟨1, 1, 1, 0, 0, ⟨by omega, ?_, ?_, ?_, ?_, ?_, ?_⟩, fun p hp => ⟨?_, ?_, ⟨0, by omega, st_m (by omega)⟩, ⟨0, by omega, st_m (by omega)⟩⟩, fun t ht => ⟨?_, ?_, ?_, ?_, ⟨0, by omega, st_m (by omega)⟩, ⟨0, by omega, st_m (by omega)⟩, ⟨0, by omega, st_m (by omega)⟩⟩, fun d hd => ?_, ⟨?_, Or.inl (st_m (by omega))⟩, fun p hp => absurd hp (by omega), fun p hp => absurd hp (by omega), ⟨fun _ => 0, fun p q hp => absurd hp (by omega)⟩, ⟨by omega, ?_⟩, ⟨fun q hq => absurd hq (by omega), fun q _ _ => pg_b0 q⟩, fun p hp => ⟨?_, 0, by omega, st_m (by omega)⟩, ⟨fun p hp => ?_, fun p _ _ => pg_b0 p⟩, ⟨fun p hp => ?_, fun p _ _ => pg_b0 p⟩⟩, Or.inl (z0 2), ?_, fun e => ?_⟩
  · decide +kernel
  · decide +kernel
  · exact st_m (by omega)
  · decide +kernel
  · decide +kernel
  · exact z11 1
  · rw [st_m (by omega)]; exact z3 p
  · rw [st_m (by omega)]; exact z4 p
  · rw [st_m (by omega)]; exact z5 t
  · rw [st_m (by omega)]; exact z6 t
  · rw [st_m (by omega)]; exact z7 t
  · rw [st_m (by omega)]; exact z8 t
  · rw [st_m (by omega)]; exact z9 d
  · rw [st_m (by omega)]; exact z10 2
  · refine ⟨fun p hp => ⟨?_, ?_, ⟨0, by omega, st_m (by omega)⟩, ⟨0, by omega, st_m (by omega)⟩⟩, fun p _ _ => ⟨z54 p, z55 p⟩, fun q hq => absurd hq (by omega), fun q _ _ => ⟨z56 q, z57 q, z58 q⟩, fun d hd => ?_, ?_, ?_, st_m (by omega)⟩
    · rw [st_m (by omega)]; exact z54 p
    · rw [st_m (by omega)]; exact z55 p
    · rw [st_m (by omega)]; exact z59 d
    · rw [st_m (by omega)]; exact z53 7
    · rw [st_m (by omega)]; exact z53 8
  · rw [st_m (by omega)]; exact z61 p
  · rw [st_m (by omega), show pg_b (dn_μ.2 (1 + 61)) p = false from pg_b0 p]; rfl
  · rw [st_m (by omega), show pg_b (dn_μ.2 (1 + 62)) p = false from pg_b0 p]; rfl
  · rw [z143, z0]
  · rw [z0] at e
    exact absurd e (by decide)
theorem ok_good : pq_good pl_G := ⟨fun _ _ _ g => pl_mono g, ok_land, ok_height, ok_soil, ok_soils, ok_ditch, ok_trench, ok_pipe, ok_join, ok_open, ok_part, ok_block, ok_of, ok_step, ok_rain, ok_hours, ok_at, ok_all, ok_many, ok_dry, ok_mark, ok_tree, ok_pair, ok_sight, ok_see, ok_where, ok_keep, ok_back⟩
