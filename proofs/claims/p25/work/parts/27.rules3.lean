/-- one instruction -/
def kn_one (M : kn_M) (f : kn_F) (h : kn_H) : Option kn_R := match kn_code M f.1 with
  | none => none
  | some i => kn_step M.2.2.1 M.2.2.2.1 i f.1 f.2.1 f.2.2 h
theorem kn_one_code {M : kn_M} {f : kn_F} {h : kn_H} {q : kn_R} (hs : kn_one M f h = some q) : ∃ i, kn_code M f.1 = some i ∧ kn_step M.2.2.1 M.2.2.2.1 i f.1 f.2.1 f.2.2 h = some q := by
  unfold kn_one at hs
  split at hs
  · cases hs
  · rename_i i hi
    exact ⟨i, hi, hs⟩
section KPQ
variable {T : List kn_M} {M : kn_M} {h : kn_H} {Q : Option Value → kn_H → Prop} {f : kn_F}
theorem kn_Q_go {f1 : kn_F} {h1 : kn_H} (hs : kn_one M f h = some (.inl (f1, h1, 0, 0))) (k : kn_Post T M f1 h1 Q) : kn_Post T M f h Q := by
  obtain ⟨i, hc, hs⟩ := kn_one_code hs
  exact kn_P_go hc hs k
theorem kn_Q_if {c : Prop} {dc : Decidable c} {t n : Nat} {l1 : List (Nat × Value)} {s1 : List Value} (hs : kn_one M f h = @ite _ c dc (kn_to t l1 s1 h) (kn_to n l1 s1 h)) (kt : c → kn_Post T M (t, l1, s1) h Q) (kf : ¬ c → kn_Post T M (n, l1, s1) h Q) : kn_Post T M f h Q := by
  by_cases hcc : c
  · refine kn_Q_go (f1 := (t, l1, s1)) (h1 := h) ?_ (kt hcc)
    rw [hs, if_pos hcc]
    rfl
  · refine kn_Q_go (f1 := (n, l1, s1)) (h1 := h) ?_ (kf hcc)
    rw [hs, if_neg hcc]
    rfl
theorem kn_Q_ok {c : Prop} {dc : Decidable c} {t : Nat} {l1 : List (Nat × Value)} {s1 : List Value} {h1 : kn_H} (hs : kn_one M f h = @ite _ c dc none (kn_to t l1 s1 h1)) (hn : ¬ c) (k : kn_Post T M (t, l1, s1) h1 Q) : kn_Post T M f h Q := by
  refine kn_Q_go (f1 := (t, l1, s1)) (h1 := h1) ?_ k
  rw [hs, if_neg hn]
  rfl
theorem kn_Q_ret {v : Option Value} (hs : kn_one M f h = some (.inr (.inr v))) (hq : Q v h) : kn_Post T M f h Q := by
  obtain ⟨i, hc, hs⟩ := kn_one_code hs
  exact kn_P_ret hc hs hq
theorem kn_Q_retz {x : Int32} (hs : kn_one M f h = (bif x == 0 || x == 1 then some (.inr (.inr (some (.int x)))) else none)) (hx : x = 0 ∨ x = 1) (hq : Q (some (.int x)) h) : kn_Post T M f h Q := by
  refine kn_Q_ret (v := some (.int x)) ?_ hq
  rw [hs]
  rcases hx with rfl | rfl <;> rfl
theorem kn_Q_call {f0 f1 : kn_F} {j : Nat} {as : List Value} {M1 : kn_M} {Q1 : Option Value → kn_H → Prop} (hs : kn_one M f h = some (.inr (.inl (j, as, f1)))) (hj : kn_at T j = some M1) (hf : (0, lv_args 0 as, []) = f0) (hP : kn_Post T M1 f0 h Q1)
    (k : ∀ v h1, Q1 v h1 → kn_Post T M (f1.1, f1.2.1, v.toList ++ f1.2.2) h1 Q) : kn_Post T M f h Q := by
  obtain ⟨i, hc, hs⟩ := kn_one_code hs
  subst hf
  exact kn_P_call hc hs hj hP k
theorem kn_Q_tab {x kk : Int32} {lo hi : Int} {d t : Nat} {ts : List Nat} {l : List (Nat × Value)} {r : List Value} (hs : kn_one M f h = kn_tab lo hi (d :: ts) l (.int x :: r) h) (hx : x = kk) (hk : kn_tab lo hi (d :: ts) l (.int kk :: r) h = kn_to t l r h) (k : kn_Post T M (t, l, r) h Q) : kn_Post T M f h Q := by
  refine kn_Q_go (f1 := (t, l, r)) (h1 := h) ?_ k
  rw [hs, hx, hk]
  rfl
theorem kn_Q_tabN {x : Int32} {lo hi : Int} {d : Nat} {ts : List Nat} {l : List (Nat × Value)} {r : List Value} (hs : kn_one M f h = kn_tab lo hi (d :: ts) l (.int x :: r) h) (hx : x.toInt < lo ∨ hi < x.toInt) (k : kn_Post T M (d, l, r) h Q) : kn_Post T M f h Q := by
  refine kn_Q_go (f1 := (d, l, r)) (h1 := h) ?_ k
  rw [hs]
  show (if x.toInt < lo ∨ hi < x.toInt then _ else _) = _
  rw [if_pos hx]
  rfl
end KPQ
