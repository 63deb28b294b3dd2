/-! LAYER 2: the first memory -/
def zr0 : ZRow := fun j => if j = 5 ∨ j = 7 then 99 else 0
theorem zr0_gd : GD zr0 := by
  refine ⟨⟨by decide, by decide, by decide, by decide, by decide, by decide, by decide, by decide, by decide, by decide, by decide, by decide, by decide, by decide, by decide, fun i hi => absurd hi (Nat.not_lt_zero _), fun i hi => absurd hi (Nat.not_lt_zero _), ?_⟩, by decide⟩
  intro i hi
  have e : ∀ i, zr0 (63 + i) = 0 := fun i => by
    unfold zr0
    rw [if_neg (by omega)]
  refine ⟨by rw [e]; decide, fun j hj => ?_⟩
  rw [e, e, Nat.zero_testBit, Nat.zero_testBit]
  exact ⟨rfl, rfl⟩
theorem zr0_ir : IR zM0 zr0 := by
  have h : ∀ j, j < 73 → zM0 78 j = rI zr0 j := by decide +kernel
  exact h
theorem zr0_sd : SDc zM0 12 zr0 := by
  refine ⟨⟨by decide +kernel, by decide +kernel, by decide +kernel, by decide +kernel, by decide +kernel, by decide +kernel, by decide +kernel, by decide +kernel, by decide +kernel, by decide +kernel, by decide +kernel⟩, by decide +kernel⟩
theorem inv0 : INV zM0 := by
  refine ⟨1, 0, zr0, 0, fun _ => zr0, (0, fun _ => 0), (0, fun _ => 0, fun _ => 0, fun _ _ => 0), ⟨zr0_gd, fun k hk => absurd hk (Nat.not_lt_zero _), ⟨by decide, fun k hk => absurd hk (Nat.not_lt_zero _)⟩, ⟨by decide, fun k hk => absurd hk (Nat.not_lt_zero _)⟩⟩, ⟨⟨by decide +kernel, Or.inl rfl⟩, by decide +kernel, ⟨by decide +kernel, by decide +kernel, by decide +kernel, by decide +kernel, by decide +kernel, fun i hi => absurd hi (Nat.not_lt_zero _), fun i hi => absurd hi (Nat.not_lt_zero _)⟩, zr0_sd, ⟨by decide +kernel, by decide, by decide +kernel, by decide, fun k hk => absurd hk (Nat.not_lt_zero _)⟩, ⟨by decide +kernel, fun k hk => absurd hk (Nat.not_lt_zero _)⟩, ⟨by decide +kernel, fun k hk => absurd hk (Nat.not_lt_zero _)⟩, Or.inl ⟨by decide +kernel, by decide +kernel⟩, Or.inl (by decide +kernel)⟩, ⟨zr0_ir, ⟨by decide +kernel, by decide, fun k hk => absurd hk (Nat.not_lt_zero _)⟩, ⟨by decide +kernel, fun k hk => absurd hk (Nat.not_lt_zero _)⟩, ⟨by decide +kernel, fun k hk => absurd hk (Nat.not_lt_zero _)⟩⟩⟩
