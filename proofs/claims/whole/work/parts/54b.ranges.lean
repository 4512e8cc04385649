/-! ===== ranges ===== -/
theorem b_1_999 (a : Int32) : (∃ n, 1 ≤ n ∧ n ≤ 999 ∧ a = kI n ∧ f_X3_isBetween a 1 999 = some 1 ∧ f_X4_in a.toInt64 1 999 = some 1) ∨ (f_X3_isBetween a 1 999 = some 0 ∧ f_X4_in a.toInt64 1 999 = some 0) := by
  rcases btw a (lo := 1) (hi := 999) (by decide) (by decide) with ⟨n, h1, h2, h3, h4, h5, h6⟩ | ⟨h5, h6⟩
  · exact Or.inl ⟨n, h2, h3, h4, h5, h6⟩
  · exact Or.inr ⟨h5, h6⟩
theorem b_0_2 (a : Int32) : (∃ n, 0 ≤ n ∧ n ≤ 2 ∧ a = kI n ∧ f_X3_isBetween a 0 2 = some 1 ∧ f_X4_in a.toInt64 0 2 = some 1) ∨ (f_X3_isBetween a 0 2 = some 0 ∧ f_X4_in a.toInt64 0 2 = some 0) := by
  rcases btw a (lo := 0) (hi := 2) (by decide) (by decide) with ⟨n, h1, h2, h3, h4, h5, h6⟩ | ⟨h5, h6⟩
  · exact Or.inl ⟨n, h2, h3, h4, h5, h6⟩
  · exact Or.inr ⟨h5, h6⟩
theorem b_1_99 (a : Int32) : (∃ n, 1 ≤ n ∧ n ≤ 99 ∧ a = kI n ∧ f_X3_isBetween a 1 99 = some 1 ∧ f_X4_in a.toInt64 1 99 = some 1) ∨ (f_X3_isBetween a 1 99 = some 0 ∧ f_X4_in a.toInt64 1 99 = some 0) := by
  rcases btw a (lo := 1) (hi := 99) (by decide) (by decide) with ⟨n, h1, h2, h3, h4, h5, h6⟩ | ⟨h5, h6⟩
  · exact Or.inl ⟨n, h2, h3, h4, h5, h6⟩
  · exact Or.inr ⟨h5, h6⟩
theorem b_0_7 (a : Int32) : (∃ n, 0 ≤ n ∧ n ≤ 7 ∧ a = kI n ∧ f_X3_isBetween a 0 7 = some 1 ∧ f_X4_in a.toInt64 0 7 = some 1) ∨ (f_X3_isBetween a 0 7 = some 0 ∧ f_X4_in a.toInt64 0 7 = some 0) := by
  rcases btw a (lo := 0) (hi := 7) (by decide) (by decide) with ⟨n, h1, h2, h3, h4, h5, h6⟩ | ⟨h5, h6⟩
  · exact Or.inl ⟨n, h2, h3, h4, h5, h6⟩
  · exact Or.inr ⟨h5, h6⟩
theorem b_0_40 (a : Int32) : (∃ n, 0 ≤ n ∧ n ≤ 40 ∧ a = kI n ∧ f_X3_isBetween a 0 40 = some 1 ∧ f_X4_in a.toInt64 0 40 = some 1) ∨ (f_X3_isBetween a 0 40 = some 0 ∧ f_X4_in a.toInt64 0 40 = some 0) := by
  rcases btw a (lo := 0) (hi := 40) (by decide) (by decide) with ⟨n, h1, h2, h3, h4, h5, h6⟩ | ⟨h5, h6⟩
  · exact Or.inl ⟨n, h2, h3, h4, h5, h6⟩
  · exact Or.inr ⟨h5, h6⟩
theorem b_0_5 (a : Int32) : (∃ n, 0 ≤ n ∧ n ≤ 5 ∧ a = kI n ∧ f_X3_isBetween a 0 5 = some 1 ∧ f_X4_in a.toInt64 0 5 = some 1) ∨ (f_X3_isBetween a 0 5 = some 0 ∧ f_X4_in a.toInt64 0 5 = some 0) := by
  rcases btw a (lo := 0) (hi := 5) (by decide) (by decide) with ⟨n, h1, h2, h3, h4, h5, h6⟩ | ⟨h5, h6⟩
  · exact Or.inl ⟨n, h2, h3, h4, h5, h6⟩
  · exact Or.inr ⟨h5, h6⟩
theorem b_0_4 (a : Int32) : (∃ n, 0 ≤ n ∧ n ≤ 4 ∧ a = kI n ∧ f_X3_isBetween a 0 4 = some 1 ∧ f_X4_in a.toInt64 0 4 = some 1) ∨ (f_X3_isBetween a 0 4 = some 0 ∧ f_X4_in a.toInt64 0 4 = some 0) := by
  rcases btw a (lo := 0) (hi := 4) (by decide) (by decide) with ⟨n, h1, h2, h3, h4, h5, h6⟩ | ⟨h5, h6⟩
  · exact Or.inl ⟨n, h2, h3, h4, h5, h6⟩
  · exact Or.inr ⟨h5, h6⟩
theorem b_0_15 (a : Int32) : (∃ n, 0 ≤ n ∧ n ≤ 15 ∧ a = kI n ∧ f_X3_isBetween a 0 15 = some 1 ∧ f_X4_in a.toInt64 0 15 = some 1) ∨ (f_X3_isBetween a 0 15 = some 0 ∧ f_X4_in a.toInt64 0 15 = some 0) := by
  rcases btw a (lo := 0) (hi := 15) (by decide) (by decide) with ⟨n, h1, h2, h3, h4, h5, h6⟩ | ⟨h5, h6⟩
  · exact Or.inl ⟨n, h2, h3, h4, h5, h6⟩
  · exact Or.inr ⟨h5, h6⟩
theorem b_0_255 (a : Int32) : (∃ n, 0 ≤ n ∧ n ≤ 255 ∧ a = kI n ∧ f_X3_isBetween a 0 255 = some 1 ∧ f_X4_in a.toInt64 0 255 = some 1) ∨ (f_X3_isBetween a 0 255 = some 0 ∧ f_X4_in a.toInt64 0 255 = some 0) := by
  rcases btw a (lo := 0) (hi := 255) (by decide) (by decide) with ⟨n, h1, h2, h3, h4, h5, h6⟩ | ⟨h5, h6⟩
  · exact Or.inl ⟨n, h2, h3, h4, h5, h6⟩
  · exact Or.inr ⟨h5, h6⟩
theorem b_2_52 (a : Int32) : (∃ n, 2 ≤ n ∧ n ≤ 52 ∧ a = kI n ∧ f_X3_isBetween a 2 52 = some 1 ∧ f_X4_in a.toInt64 2 52 = some 1) ∨ (f_X3_isBetween a 2 52 = some 0 ∧ f_X4_in a.toInt64 2 52 = some 0) := by
  rcases btw a (lo := 2) (hi := 52) (by decide) (by decide) with ⟨n, h1, h2, h3, h4, h5, h6⟩ | ⟨h5, h6⟩
  · exact Or.inl ⟨n, h2, h3, h4, h5, h6⟩
  · exact Or.inr ⟨h5, h6⟩
theorem b_0_1 (a : Int32) : (∃ n, 0 ≤ n ∧ n ≤ 1 ∧ a = kI n ∧ f_X3_isBetween a 0 1 = some 1 ∧ f_X4_in a.toInt64 0 1 = some 1) ∨ (f_X3_isBetween a 0 1 = some 0 ∧ f_X4_in a.toInt64 0 1 = some 0) := by
  rcases btw a (lo := 0) (hi := 1) (by decide) (by decide) with ⟨n, h1, h2, h3, h4, h5, h6⟩ | ⟨h5, h6⟩
  · exact Or.inl ⟨n, h2, h3, h4, h5, h6⟩
  · exact Or.inr ⟨h5, h6⟩
theorem b_0_999 (a : Int32) : (∃ n, 0 ≤ n ∧ n ≤ 999 ∧ a = kI n ∧ f_X3_isBetween a 0 999 = some 1 ∧ f_X4_in a.toInt64 0 999 = some 1) ∨ (f_X3_isBetween a 0 999 = some 0 ∧ f_X4_in a.toInt64 0 999 = some 0) := by
  rcases btw a (lo := 0) (hi := 999) (by decide) (by decide) with ⟨n, h1, h2, h3, h4, h5, h6⟩ | ⟨h5, h6⟩
  · exact Or.inl ⟨n, h2, h3, h4, h5, h6⟩
  · exact Or.inr ⟨h5, h6⟩
theorem b_12_16 (a : Int32) : (∃ n, 12 ≤ n ∧ n ≤ 16 ∧ a = kI n ∧ f_X3_isBetween a 12 16 = some 1 ∧ f_X4_in a.toInt64 12 16 = some 1) ∨ (f_X3_isBetween a 12 16 = some 0 ∧ f_X4_in a.toInt64 12 16 = some 0) := by
  rcases btw a (lo := 12) (hi := 16) (by decide) (by decide) with ⟨n, h1, h2, h3, h4, h5, h6⟩ | ⟨h5, h6⟩
  · exact Or.inl ⟨n, h2, h3, h4, h5, h6⟩
  · exact Or.inr ⟨h5, h6⟩
