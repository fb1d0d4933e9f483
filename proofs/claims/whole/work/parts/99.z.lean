theorem zz_t {ρ : Nat → Int32} {x y : Nat} {r : Nat} (h : mz_oladd x y (fun w => some w) = some r) : mz_l ρ r = mz_l ρ x + mz_l ρ y := by
  obtain ⟨-, -, w, h1, -, h2⟩ := mz_oladd_ok (ρ := ρ) h
  cases h1
  exact h2
