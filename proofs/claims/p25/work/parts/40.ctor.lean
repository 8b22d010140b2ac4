/-! runs that make cells -/
def kn_PA (T : List kn_M) (M : kn_M) (f : kn_F) (h : kn_H) (v : Option Value) (h1 : kn_H) (k z : Nat) : Prop := ∃ n, kn_run T n M f h = some (v, h1, k, z)
def kn_goA (M : kn_M) : Nat → kn_F → kn_H → Nat → Nat → Option (kn_F × kn_H × Nat × Nat)
  | 0, f, h, k, z => some (f, h, k, z)
  | n + 1, f, h, k, z => match kn_one M f h with
    | some (.inl (f1, h1, k1, z1)) => kn_goA M n f1 h1 (k + k1) (z + z1)
    | _ => none
section KPA
variable {T : List kn_M} {M : kn_M} {v : Option Value} {h2 : kn_H}
theorem kn_A_step {f f1 : kn_F} {h h1 : kn_H} {k1 z1 k2 z2 : Nat} (hs : kn_one M f h = some (.inl (f1, h1, k1, z1))) (hp : kn_PA T M f1 h1 v h2 k2 z2) : kn_PA T M f h v h2 (k1 + k2) (z1 + z2) := by
  obtain ⟨i, hc, hs⟩ := kn_one_code hs
  obtain ⟨n, hr⟩ := hp
  refine ⟨n + 1, ?_⟩
  rw [kn_run, hc]
  dsimp only
  rw [hs]
  dsimp only
  rw [hr]
  rfl
theorem kn_A_acc (n : Nat) : ∀ {f f1 : kn_F} {h h1 : kn_H} {k z k1 z1 k2 z2 : Nat}, kn_goA M n f h k z = some (f1, h1, k1, z1) → kn_PA T M f1 h1 v h2 k2 z2 → ∃ K Z, kn_PA T M f h v h2 K Z ∧ k + K = k1 + k2 ∧ z + Z = z1 + z2 := by
  induction n with
  | zero =>
    intro f f1 h h1 k z k1 z1 k2 z2 hg hp
    cases hg
    exact ⟨k2, z2, hp, rfl, rfl⟩
  | succ n ih =>
    intro f f1 h h1 k z k1 z1 k2 z2 hg hp
    rw [kn_goA] at hg
    split at hg
    · rename_i fa ha ka za hs
      obtain ⟨K, Z, hP, e1, e2⟩ := ih hg hp
      exact ⟨ka + K, za + Z, kn_A_step hs hP, by omega, by omega⟩
    · cases hg
theorem kn_A_steps (n : Nat) {f f1 : kn_F} {h h1 : kn_H} {k1 z1 k2 z2 K Z : Nat} (hg : kn_goA M n f h 0 0 = some (f1, h1, k1, z1)) (hK : K = k1 + k2) (hZ : Z = z1 + z2) (hp : kn_PA T M f1 h1 v h2 k2 z2) : kn_PA T M f h v h2 K Z := by
  obtain ⟨K1, Z1, hP, e1, e2⟩ := kn_A_acc n hg hp
  have a1 : K = K1 := by omega
  have a2 : Z = Z1 := by omega
  subst a1 a2
  exact hP
theorem kn_A_call {f f0 f1 : kn_F} {h h1 : kn_H} {j : Nat} {as : List Value} {M1 : kn_M} {v1 : Option Value} {k1 z1 k2 z2 K Z : Nat} (hs : kn_one M f h = some (.inr (.inl (j, as, f1)))) (hj : kn_at T j = some M1) (hf : (0, lv_args 0 as, []) = f0) (hP : kn_PA T M1 f0 h v1 h1 k1 z1) (hK : K = k1 + k2) (hZ : Z = z1 + z2)
    (hp : kn_PA T M (f1.1, f1.2.1, v1.toList ++ f1.2.2) h1 v h2 k2 z2) : kn_PA T M f h v h2 K Z := by
  obtain ⟨i, hc, hs⟩ := kn_one_code hs
  subst hf hK hZ
  obtain ⟨n1, hr1⟩ := hP
  obtain ⟨n2, hr2⟩ := hp
  refine ⟨n1 + n2 + 1, ?_⟩
  rw [kn_run, hc]
  dsimp only
  rw [hs]
  dsimp only
  rw [hj]
  dsimp only
  rw [kn_run_more T n1 M1 _ h _ hr1 (n1 + n2) (by omega)]
  dsimp only
  rw [kn_run_more T n2 M _ h1 _ hr2 (n1 + n2) (by omega)]
  rfl
theorem kn_A_ret {f : kn_F} {h : kn_H} {v : Option Value} (hs : kn_one M f h = some (.inr (.inr v))) : kn_PA T M f h v h 0 0 := by
  obtain ⟨i, hc, hs⟩ := kn_one_code hs
  refine ⟨1, ?_⟩
  rw [kn_run, hc]
  dsimp only
  rw [hs]
end KPA
