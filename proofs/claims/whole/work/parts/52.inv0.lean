def K00 : gK8 := (0, fun _ => 3, fun _ => 0, fun _ => 0, fun _ => 0, fun _ => 0, fun _ => 0, [])
def w00 : gW5 := (0, 0, 0, fun _ => 0, fun _ => 0)
theorem inv_u0 : Inv u0 := by
  refine ⟨K00, w00, 0, fun _ => [], ⟨⟨⟨by decide, rfl⟩, by decide +kernel, by decide +kernel, by decide +kernel⟩, ⟨rfl, rfl, rfl, by decide +kernel, by decide +kernel⟩, ⟨rfl, by decide +kernel, by decide +kernel, by decide +kernel⟩, ⟨rfl, rfl, rfl, by decide +kernel, by decide +kernel⟩, ?_⟩, ⟨by decide, rfl, rfl, rfl, rfl, ⟨by decide, rfl, rfl, fun i hi => absurd hi (Nat.not_lt_zero i)⟩, fun k hk => absurd hk (Nat.not_lt_zero k), by decide +kernel⟩, Or.inl ⟨rfl, rfl, rfl⟩, ⟨0, by decide, rfl, rfl, fun i hi => absurd hi (Nat.not_lt_zero i)⟩, ⟨rfl, rfl, rfl, ⟨0, by decide, rfl, rfl, fun i hi => absurd hi (Nat.not_lt_zero i)⟩, ⟨0, by decide, rfl, rfl, fun i hi => absurd hi (Nat.not_lt_zero i)⟩, ⟨0, by decide, rfl, rfl, fun i hi => absurd hi (Nat.not_lt_zero i)⟩⟩, ⟨0, by decide, rfl, rfl, fun i hi => absurd hi (Nat.not_lt_zero i)⟩, ?_, Or.inl ⟨rfl, rfl⟩⟩
  · exact ⟨fun i _ => ⟨0, by decide, rfl⟩, fun i _ => ⟨0, by decide, rfl⟩, fun i _ => ⟨0, by decide, rfl⟩, fun i _ _ => rfl, fun i _ _ => rfl⟩
  · intro j hj
    refine ⟨-1, 0, Or.inl ⟨rfl, rfl⟩, by decide, ?_, ?_, ?_, ?_, fun i _ => rfl⟩ <;> revert j <;> decide +kernel
