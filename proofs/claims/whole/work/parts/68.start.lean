/-! The start's two states belong together. -/
theorem sg_ib : ib sg0 := by
  have n0 : bs_n0 sg0 = 0 := by decide
  have n1 : bs_n1 sg0 = 0 := by decide
  have ne : bs_ne sg0 = 0 := by decide
  have ns : bs_ns sg0 = 0 := by decide
  unfold ib
  rw [n0, n1, ne, ns]
  refine ⟨⟨by omega, rfl⟩, ⟨by omega, rfl⟩, rfl, rfl, fun j hj => absurd hj (Nat.not_lt_zero _), ⟨by omega, rfl⟩, fun j hj => absurd hj (Nat.not_lt_zero _), ⟨by omega, rfl⟩, fun j hj => absurd hj (Nat.not_lt_zero _), fun s hs => ?_⟩
  match s, hs with
  | 0, _ => exact ⟨Or.inl rfl, Or.inl rfl⟩
  | 1, _ => exact ⟨Or.inl rfl, Or.inl rfl⟩
  | 2, _ => exact ⟨Or.inl rfl, Or.inl rfl⟩
  | 3, _ => exact ⟨Or.inl rfl, Or.inl rfl⟩
theorem sg_rb : rb sg0 tz0 := by
  have n0 : bs_n0 sg0 = 0 := by decide
  have n1 : bs_n1 sg0 = 0 := by decide
  have ne : bs_ne sg0 = 0 := by decide
  have ns : bs_ns sg0 = 0 := by decide
  unfold rb
  rw [n0, n1, ne, ns]
  refine ⟨rfl, rfl, fun j hj => absurd hj (Nat.not_lt_zero _), fun j hj => absurd hj (Nat.not_lt_zero _), rfl, fun j hj => absurd hj (Nat.not_lt_zero _), rfl, fun j hj => absurd hj (Nat.not_lt_zero _), fun s hs => ⟨Or.inl rfl, ⟨fun _ => ?_, fun _ => rfl⟩, fun h => absurd rfl h⟩, rfl⟩
  match s, hs with
  | 0, _ => rfl
  | 1, _ => rfl
  | 2, _ => rfl
  | 3, _ => rfl
theorem sg_RR : RR sg0 tz0 := ⟨⟨sg_ib, fun h => absurd (show (1 : Int32) = 0 from h) (by decide), fun h => absurd (show (1 : Int32) = 0 from h) (by decide)⟩, sg_rb⟩
