/-! numbers that nobody should unfold -/
noncomputable def kn_se {α : Type} (x : α) : α := Classical.choose (⟨x, rfl⟩ : ∃ y : α, y = x)
theorem kn_se_eq {α : Type} (x : α) : kn_se x = x := Classical.choose_spec (⟨x, rfl⟩ : ∃ y : α, y = x)
