theorem kn_run_sub (T : List kn_M) : ∀ (n : Nat) (M : kn_M) (pc : Nat) (l l2 : List (Nat × Value)) (st : List Value) (h : kn_H) (r : Option Value × kn_H × Nat × Nat), kn_Sb l l2 → kn_run T n M (pc, l, st) h = some r → kn_run T n M (pc, l2, st) h = some r := by
  intro n
  induction n with
  | zero => intro M pc l l2 st h r hb hr; cases hr
  | succ n ih =>
    intro M pc l l2 st h r hb hr
    rw [kn_run] at hr ⊢
    dsimp only at hr ⊢
    cases hc : kn_code M pc with
    | none => rw [hc] at hr; cases hr
    | some i =>
      rw [hc] at hr
      dsimp only at hr ⊢
      cases hs : kn_step M.2.2.1 M.2.2.2.1 i pc l st h with
      | none => rw [hs] at hr; cases hr
      | some q =>
        rw [hs] at hr
        have h2 := kn_step_sub hb hs
        rcases q with ⟨⟨pc1, l1, st1⟩, h1, k, z⟩ | ⟨j, as, ⟨pc1, l1, st1⟩⟩ | v
        · obtain ⟨l3, e3, hb3⟩ := h2
          rw [e3]
          dsimp only at hr ⊢
          cases h4 : kn_run T n M (pc1, l1, st1) h1 with
          | none => rw [h4] at hr; cases hr
          | some r1 =>
            rw [h4] at hr
            rw [ih M pc1 l1 l3 st1 h1 r1 hb3 h4]
            exact hr
        · obtain ⟨l3, e3, hb3⟩ := h2
          rw [e3]
          dsimp only at hr ⊢
          cases hj : kn_at T j with
          | none => rw [hj] at hr; cases hr
          | some M1 =>
            rw [hj] at hr
            dsimp only at hr ⊢
            cases h5 : kn_run T n M1 (0, lv_args 0 as, []) h with
            | none => rw [h5] at hr; cases hr
            | some r1 =>
              rw [h5] at hr
              obtain ⟨v, h1, k, z⟩ := r1
              dsimp only at hr ⊢
              cases h4 : kn_run T n M (pc1, l1, v.toList ++ st1) h1 with
              | none => rw [h4] at hr; cases hr
              | some r2 =>
                rw [h4] at hr
                rw [ih M pc1 l1 l3 (v.toList ++ st1) h1 r2 hb3 h4]
                exact hr
        · rw [show kn_step M.2.2.1 M.2.2.2.1 i pc l2 st h = some (.inr (.inr v)) from h2]
          exact hr
def kn_nd : List Nat → Bool
  | [] => true
  | a :: r => !(r.any (fun x => Nat.beq a x)) && kn_nd r
theorem kn_nd_fn : ∀ {l : List (Nat × Value)}, kn_nd (l.map (fun q => q.1)) = true → kn_Fn l
  | [], _ => fun _ _ _ h => by cases h
  | q :: r, hn => by
    obtain ⟨h1, h2⟩ := Bool.and_eq_true_iff.mp hn
    have ih := kn_nd_fn (l := r) h2
    have hno : ∀ w, (q.1, w) ∉ r := by
      intro w hw
      have h3 : (List.map (fun q => q.1) r).any (fun x => Nat.beq q.1 x) = true := List.any_eq_true.mpr ⟨q.1, List.mem_map.mpr ⟨_, hw, rfl⟩, Nat.beq_refl q.1⟩
      rw [h3] at h1
      cases h1
    intro i v w hv hw
    rcases List.mem_cons.mp hv with hv | hv <;> rcases List.mem_cons.mp hw with hw | hw
    · rw [← hv] at hw; cases hw; rfl
    · exact absurd hw (by have := hno w; rw [← hv] at this; exact this)
    · exact absurd hv (by have := hno v; rw [← hw] at this; exact this)
    · exact ih i v w hv hw
section KPR
variable {T : List kn_M} {M : kn_M} {h : kn_H} {Q : Option Value → kn_H → Prop} {pc : Nat}
theorem kn_P_pick (ks : List Nat) {l l1 : List (Nat × Value)} {st : List Value} (hl : lv_pick l ks = l1) (hn : kn_nd (l.map (fun q => q.1)) = true) (k : kn_Post T M (pc, l1, st) h Q) : kn_Post T M (pc, l, st) h Q := by
  obtain ⟨n, v, h1, hr, hq⟩ := k
  refine ⟨n, v, h1, kn_run_sub T n M pc l1 l st h _ ⟨fun q hq => ?_, kn_nd_fn hn⟩ hr, hq⟩
  rw [← hl] at hq
  obtain ⟨k, -, hk⟩ := List.mem_filterMap.mp hq
  exact List.mem_of_getElem? hk
theorem kn_P_retz {f : kn_F} {i : kn_I} {x : Int32} (hc : kn_code M f.1 = some i) (hs : kn_step M.2.2.1 M.2.2.2.1 i f.1 f.2.1 f.2.2 h = (bif x == 0 || x == 1 then some (.inr (.inr (some (.int x)))) else none)) (hx : x = 0 ∨ x = 1) (hq : Q (some (.int x)) h) : kn_Post T M f h Q := by
  refine kn_P_ret hc (v := some (.int x)) ?_ hq
  rw [hs]
  rcases hx with rfl | rfl <;> rfl
theorem kn_P_tab {f : kn_F} {i : kn_I} {x kk : Int32} {lo hi : Int} {d t : Nat} {ts : List Nat} {l : List (Nat × Value)} {r : List Value} (hc : kn_code M f.1 = some i) (hs : kn_step M.2.2.1 M.2.2.2.1 i f.1 f.2.1 f.2.2 h = kn_tab lo hi (d :: ts) l (.int x :: r) h) (hx : x = kk) (hk : kn_tab lo hi (d :: ts) l (.int kk :: r) h = kn_to t l r h) (k : kn_Post T M (t, l, r) h Q) : kn_Post T M f h Q := by
  refine kn_P_go hc (f1 := (t, l, r)) (h1 := h) ?_ k
  rw [hs, hx, hk]
  rfl
theorem kn_P_tabN {f : kn_F} {i : kn_I} {x : Int32} {lo hi : Int} {d : Nat} {ts : List Nat} {l : List (Nat × Value)} {r : List Value} (hc : kn_code M f.1 = some i) (hs : kn_step M.2.2.1 M.2.2.2.1 i f.1 f.2.1 f.2.2 h = kn_tab lo hi (d :: ts) l (.int x :: r) h) (hx : x.toInt < lo ∨ hi < x.toInt) (k : kn_Post T M (d, l, r) h Q) : kn_Post T M f h Q := by
  refine kn_P_go hc (f1 := (d, l, r)) (h1 := h) ?_ k
  rw [hs]
  show (if x.toInt < lo ∨ hi < x.toInt then _ else _) = _
  rw [if_pos hx]
  rfl
end KPR
theorem kn_tab_out {x : Int32} (lo hi : Int) (n : Nat) (hn : lo + n = hi + 1) (hj : ∀ j : Nat, j < n → ¬ x = Int32.ofInt (lo + j)) : x.toInt < lo ∨ hi < x.toInt := by
  rcases Int.lt_or_le x.toInt lo with h1 | h1
  · exact Or.inl h1
  · rcases Int.lt_or_le hi x.toInt with h2 | h2
    · exact Or.inr h2
    · exfalso
      refine hj (x.toInt - lo).toNat (by omega) ?_
      have e : lo + ((x.toInt - lo).toNat : Int) = x.toInt := by omega
      rw [e, Int32.ofInt_toInt]
