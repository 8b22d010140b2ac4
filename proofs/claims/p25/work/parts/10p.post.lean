/-! THE SMALL MACHINE, REASONED ABOUT: what a run from a frame comes to (nothing is made on the way) -/
theorem kn_run_more (T : List kn_M) : ∀ (n : Nat) (M : kn_M) (f : kn_F) (h : kn_H) (r : Option Value × kn_H × Nat × Nat), kn_run T n M f h = some r → ∀ m, n ≤ m → kn_run T m M f h = some r := by
  intro n
  induction n with
  | zero => intro M f h r hr; cases hr
  | succ n ih =>
    intro M f h r hr m hm
    cases m with
    | zero => omega
    | succ m =>
      have hm' : n ≤ m := by omega
      rw [kn_run] at hr ⊢
      cases hc : kn_code M f.1 with
      | none => rw [hc] at hr; cases hr
      | some i =>
        rw [hc] at hr
        dsimp only at hr ⊢
        cases hs : kn_step M.2.2.1 M.2.2.2.1 i f.1 f.2.1 f.2.2 h with
        | none => rw [hs] at hr; cases hr
        | some q =>
          rw [hs] at hr
          rcases q with ⟨f1, h1, k, z⟩ | ⟨j, as, f1⟩ | v
          · dsimp only at hr ⊢
            cases h2 : kn_run T n M f1 h1 with
            | none => rw [h2] at hr; cases hr
            | some r1 => rw [h2] at hr; rw [ih M f1 h1 r1 h2 m hm']; exact hr
          · dsimp only at hr ⊢
            cases hj : kn_at T j with
            | none => rw [hj] at hr; cases hr
            | some M1 =>
              rw [hj] at hr
              dsimp only at hr ⊢
              cases h2 : kn_run T n M1 (0, lv_args 0 as, []) h with
              | none => rw [h2] at hr; cases hr
              | some r1 =>
                rw [h2] at hr
                rw [ih M1 _ h r1 h2 m hm']
                obtain ⟨v, h1, k, z⟩ := r1
                dsimp only at hr ⊢
                cases h3 : kn_run T n M (f1.1, f1.2.1, v.toList ++ f1.2.2) h1 with
                | none => rw [h3] at hr; cases hr
                | some r2 => rw [h3] at hr; rw [ih M _ h1 r2 h3 m hm']; exact hr
          · exact hr
/-- from frame f and cells h on, the method ends, and Q holds of its answer and the cells then; no cell is made -/
def kn_Post (T : List kn_M) (M : kn_M) (f : kn_F) (h : kn_H) (Q : Option Value → kn_H → Prop) : Prop := ∃ n v h1, kn_run T n M f h = some (v, h1, 0, 0) ∧ Q v h1
/-- n steps within the method -/
def kn_goes (M : kn_M) : Nat → kn_F → kn_H → Option (kn_F × kn_H)
  | 0, f, h => some (f, h)
  | n + 1, f, h => match kn_code M f.1 with
    | none => none
    | some i => match kn_step M.2.2.1 M.2.2.2.1 i f.1 f.2.1 f.2.2 h with
      | some (.inl (f1, h1, 0, 0)) => kn_goes M n f1 h1
      | _ => none
section KPO
variable {T : List kn_M} {M : kn_M} {h : kn_H} {Q : Option Value → kn_H → Prop} {pc : Nat} {l : List (Nat × Value)} {st : List Value}
theorem kn_P_go {f f1 : kn_F} {h1 : kn_H} {i : kn_I} (hc : kn_code M f.1 = some i) (hs : kn_step M.2.2.1 M.2.2.2.1 i f.1 f.2.1 f.2.2 h = some (.inl (f1, h1, 0, 0))) (k : kn_Post T M f1 h1 Q) : kn_Post T M f h Q := by
  obtain ⟨n, v, h2, hr, hq⟩ := k
  refine ⟨n + 1, v, h2, ?_, hq⟩
  rw [kn_run, hc]
  dsimp only
  rw [hs]
  dsimp only
  rw [hr]
  rfl
theorem kn_P_steps (n : Nat) : ∀ {f f1 : kn_F} {h h1 : kn_H}, kn_goes M n f h = some (f1, h1) → kn_Post T M f1 h1 Q → kn_Post T M f h Q := by
  induction n with
  | zero =>
    intro f f1 h h1 hg k
    cases hg
    exact k
  | succ n ih =>
    intro f f1 h h1 hg k
    rw [kn_goes] at hg
    cases hc : kn_code M f.1 with
    | none => rw [hc] at hg; cases hg
    | some i =>
      rw [hc] at hg
      dsimp only at hg
      split at hg
      · rename_i f2 h2 hs
        exact kn_P_go hc hs (ih hg k)
      · cases hg
theorem kn_P_call {f f1 : kn_F} {i : kn_I} {j : Nat} {as : List Value} {M1 : kn_M} {Q1 : Option Value → kn_H → Prop} (hc : kn_code M f.1 = some i) (hs : kn_step M.2.2.1 M.2.2.2.1 i f.1 f.2.1 f.2.2 h = some (.inr (.inl (j, as, f1)))) (hj : kn_at T j = some M1) (hP : kn_Post T M1 (0, lv_args 0 as, []) h Q1)
    (k : ∀ v h1, Q1 v h1 → kn_Post T M (f1.1, f1.2.1, v.toList ++ f1.2.2) h1 Q) : kn_Post T M f h Q := by
  obtain ⟨n1, v1, h1, hr1, hq1⟩ := hP
  obtain ⟨n2, v2, h2, hr2, hq2⟩ := k v1 h1 hq1
  refine ⟨n1 + n2 + 1, v2, h2, ?_, hq2⟩
  rw [kn_run, hc]
  dsimp only
  rw [hs]
  dsimp only
  rw [hj]
  dsimp only
  rw [kn_run_more T n1 M1 _ h _ hr1 (n1 + n2) (by omega)]
  dsimp only
  rw [kn_run_more T n2 M _ h1 _ hr2 (n1 + n2) (by omega)]
  rfl
theorem kn_P_ret {f : kn_F} {i : kn_I} {v : Option Value} (hc : kn_code M f.1 = some i) (hs : kn_step M.2.2.1 M.2.2.2.1 i f.1 f.2.1 f.2.2 h = some (.inr (.inr v))) (hq : Q v h) : kn_Post T M f h Q := by
  refine ⟨1, v, h, ?_, hq⟩
  rw [kn_run, hc]
  dsimp only
  rw [hs]
/-- a branch -/
theorem kn_P_if {f : kn_F} {i : kn_I} {c : Prop} {dc : Decidable c} {t n : Nat} {l1 : List (Nat × Value)} {s1 : List Value} (hc : kn_code M f.1 = some i) (hs : kn_step M.2.2.1 M.2.2.2.1 i f.1 f.2.1 f.2.2 h = @ite _ c dc (kn_to t l1 s1 h) (kn_to n l1 s1 h)) (kt : c → kn_Post T M (t, l1, s1) h Q) (kf : ¬ c → kn_Post T M (n, l1, s1) h Q) : kn_Post T M f h Q := by
  by_cases hcc : c
  · refine kn_P_go hc (f1 := (t, l1, s1)) (h1 := h) ?_ (kt hcc)
    rw [hs, if_pos hcc]
    rfl
  · refine kn_P_go hc (f1 := (n, l1, s1)) (h1 := h) ?_ (kf hcc)
    rw [hs, if_neg hcc]
    rfl
/-- an index, a divisor -/
theorem kn_P_ok {f : kn_F} {i : kn_I} {c : Prop} {dc : Decidable c} {t : Nat} {l1 : List (Nat × Value)} {s1 : List Value} {h1 : kn_H} (hc : kn_code M f.1 = some i) (hs : kn_step M.2.2.1 M.2.2.2.1 i f.1 f.2.1 f.2.2 h = @ite _ c dc none (kn_to t l1 s1 h1)) (hn : ¬ c) (k : kn_Post T M (t, l1, s1) h1 Q) : kn_Post T M f h Q := by
  refine kn_P_go hc (f1 := (t, l1, s1)) (h1 := h1) ?_ k
  rw [hs, if_neg hn]
  rfl
theorem kn_P_mono {f : kn_F} {Q1 : Option Value → kn_H → Prop} (hP : kn_Post T M f h Q1) (hq : ∀ v h1, Q1 v h1 → Q v h1) : kn_Post T M f h Q := by
  obtain ⟨n, v, h1, hr, h2⟩ := hP
  exact ⟨n, v, h1, hr, hq v h1 h2⟩
end KPO
