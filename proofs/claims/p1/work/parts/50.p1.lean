abbrev z0 : Nat → Int32 := fun _ => 0
abbrev zL : Nat → Int64 := fun _ => 0
abbrev zN : Nat → Int32 := upd (fun _ => 0) 1 (1 : Int32)
abbrev zM : Nat → Int32 := (upd (upd (upd (upd (fun _ => 0) 0 (-1 : Int32)) 1 (-1 : Int32)) 2 (-1 : Int32)) 3 (-1 : Int32))
def ok1 {α β : Type} (a : Option α) (b : Option β) (f : α → Int32) (g : β → Int32) : Prop := ∃ p q, a = some p ∧ b = some q ∧ f p = g q
theorem ok1_of {α β : Type} {a : Option α} {b : Option β} {f : α → Int32} {g : β → Int32} (x : Int32) (ha : a.map f = some x) (hb : b.map g = some x) : ok1 a b f g := by
  cases a with
  | none => cases ha
  | some p =>
    cases b with
    | none => cases hb
    | some q => exact ⟨p, q, rfl, rfl, (Option.some.inj ha).trans (Option.some.inj hb).symm⟩
theorem ok1_eq {α β : Type} {a : Option α} {b : Option β} {f : α → Int32} {g : β → Int32} (h : a.map f = b.map g ∧ a.isSome = true) : ok1 a b f g := by
  cases a with
  | none => cases h.2
  | some p => exact ok1_of (f p) rfl h.1.symm
theorem i7 (a b c : Int32) : f_X7_in a b c = f_X6_isWithin a b c := id rfl
theorem ip (a : Int32) : f_X6_isParty a = f_X6_isWithin a 0 3 := id rfl
theorem if6 (a : Int32) : f_X6_isForce a = f_X6_isWithin a 0 99 := id rfl
theorem is6 (a : Int32) : f_X6_isSheet a = f_X6_isWithin a 0 3 := id rfl
theorem il6 (a : Int32) : f_X6_isLane a = f_X6_isWithin a 0 3 := id rfl
theorem is7 (a : Int32) : f_X7_isSheet a = f_X6_isWithin a 0 3 := id rfl
theorem ic6 (c : Int32) : f_X6_isClause (0 : Int32) c = 0 := by
  unfold f_X6_isClause
  split
  · rfl
  · rename_i h
    rw [if_pos (Int32.not_lt.mp h)]
theorem ic7 (c : Int32) : f_X7_isClause zN c = 0 := by
  have e : f_X7_isClause zN c = f_X7_in c 0 (-1) := rfl
  rw [e]
  unfold f_X7_in
  split
  · rfl
  · rename_i h
    have h1 := Int32.le_iff_toInt_le.mp (Int32.not_lt.mp h)
    rw [if_pos]
    rw [Int32.lt_iff_toInt_lt]
    have e1 : (-1 : Int32).toInt = -1 := by decide
    have e2 : (0 : Int32).toInt = 0 := by decide
    omega
/-- what is within 0 .. n -/
theorem wn {a M : Int32} (n : Nat) (hM : M.toInt = n) (h : ¬ f_X6_isWithin a 0 M = 0) : ∃ j : Nat, j < n + 1 ∧ a = nI j := by
  unfold f_X6_isWithin at h
  split at h
  · exact absurd rfl h
  · rename_i h1
    split at h
    · exact absurd rfl h
    · rename_i h2
      obtain ⟨j, h3, h4⟩ := nI_of2 hM h1 (Int32.not_lt.mp h2)
      exact ⟨j, by omega, h4⟩
theorem rem0 : (f_X4_remember z0 0 0 0 0 0 1).isSome = true := by decide +kernel
theorem wei0 : (f_X4_weigh z0 z0 z0 0 0).isSome = true := by decide +kernel
theorem fa6 {w : Nat → Int32} {f : Int32} : f_X4_fallsAmong z0 w 0 f = some 0 := by with_unfolding_all rfl
theorem fi7 {m : Nat → Int32} {f : Int32} (h : m 5 = 0) : f_X7_fallsIn m f = some 0 := by
  unfold f_X7_fallsIn
  rw [fl_X7_fallsIn_4, if_pos (by rw [h]; decide)]
def no7v : Nat → Int32 := (f_X7_note zN).getD z0
theorem no7 : f_X7_note zN = some no7v := by
  have h : (f_X7_note zN).isSome = true := by decide +kernel
  obtain ⟨x, hx⟩ := Option.isSome_iff_exists.mp h
  unfold no7v
  rw [hx]
  rfl
theorem no7_5 : no7v 5 = 0 := by decide +kernel
theorem w1 {a M : Int32} (h : ¬ f_X6_isWithin a 1 M = 0) : ¬ f_X6_isWithin a 0 M = 0 := by
  intro h0
  apply h
  unfold f_X6_isWithin at h0 ⊢
  split at h0
  · rename_i h1
    rw [if_pos]
    rw [Int32.lt_iff_toInt_lt] at h1 ⊢
    have e1 : (1 : Int32).toInt = 1 := by decide
    have e2 : (0 : Int32).toInt = 0 := by decide
    omega
  · split at h0
    · rename_i h2
      split
      · rfl
      · first | rfl | rw [if_pos h2]
    · cases h0
theorem fo6 {j : Nat} (hj : j < 3 + 1) {l i n : Int32} : f_X5_faultOf zM z0 (nI j) l i n = some (-11) := by
  have : j = 0 ∨ j = 1 ∨ j = 2 ∨ j = 3 := by omega
  rcases this with rfl | rfl | rfl | rfl <;> with_unfolding_all rfl
theorem wr7 {j : Nat} (hj : j < 3 + 1) {l i n : Int32} : f_X7_wrong zM z0 (nI j) l i n = some (-11) := by
  have : j = 0 ∨ j = 1 ∨ j = 2 ∨ j = 3 := by omega
  rcases this with rfl | rfl | rfl | rfl <;> with_unfolding_all rfl
theorem ca6 {j : Nat} (hj : j < 3 + 1) {i t u n : Int32} : f_X5_carry zM z0 zL (nI j) i t u n = some (-11, zL) := by
  have : j = 0 ∨ j = 1 ∨ j = 2 ∨ j = 3 := by omega
  rcases this with rfl | rfl | rfl | rfl <;> with_unfolding_all rfl
theorem wei6 (k h f : Nat → Int32) (w d : Int32) : ∃ x, f_X4_weigh k h f w d = some x := Option.isSome_iff_exists.mp (by with_unfolding_all rfl)
theorem un6 (k h f : Nat → Int32) (w d : Int32) : ∃ x, ∀ p, f_X4_undoBy k h z0 f 0 w d p = some (0, x, 0) := by
  obtain ⟨x, hx⟩ := wei6 k h f w d
  refine ⟨x, fun p => ?_⟩
  unfold f_X4_undoBy
  rw [hx]
  dsimp only
  rw [fa6]
  rfl
theorem dr6 (k h f : Nat → Int32) (w d r : Int32) : ∃ x w' d' r', f_X4_driftOneDay k h z0 f 0 w d r = some (x, 0, w', d', r') := by
  obtain ⟨x1, h1⟩ := un6 k h f 1 d
  obtain ⟨x0, h0⟩ := un6 k h f 0 d
  unfold f_X4_driftOneDay
  split
  · rw [h1]; exact ⟨x1, _, _, _, rfl⟩
  · rw [h0]; exact ⟨x0, _, _, _, rfl⟩
theorem rem6 (pn : Nat → Int32) (t w e d r : Int32) : ∀ j, j < 9 → ∃ pn' j', j' < 9 ∧ f_X4_remember pn (nI j) t w e d r = some (pn', nI j')
  | 0, _ => ⟨_, 1, by decide, by with_unfolding_all rfl⟩
  | 1, _ => ⟨_, 2, by decide, by with_unfolding_all rfl⟩
  | 2, _ => ⟨_, 3, by decide, by with_unfolding_all rfl⟩
  | 3, _ => ⟨_, 4, by decide, by with_unfolding_all rfl⟩
  | 4, _ => ⟨_, 5, by decide, by with_unfolding_all rfl⟩
  | 5, _ => ⟨_, 6, by decide, by with_unfolding_all rfl⟩
  | 6, _ => ⟨_, 7, by decide, by with_unfolding_all rfl⟩
  | 7, _ => ⟨_, 8, by decide, by with_unfolding_all rfl⟩
  | 8, _ => ⟨_, 8, by decide, by with_unfolding_all rfl⟩
  | j + 9, h => absurd h (by omega)
theorem lo6 (m : Nat) : ∀ (n i : Nat), m < n + i → i ≤ m → ∀ (pn : Nat → Int32) (j : Nat) (f : Nat → Int32) (wa w d r : Int32), j < 9 → ∃ q, fl_X6_drift_32 n z0 z0 z0 pn (nI j) f 0 wa w d r (nI m) (nI i) = some q ∧ q.1 = 0
  | 0, i, h, hi => fun _ _ _ _ _ _ _ _ => absurd h (by omega)
  | n + 1, i, h, hi => by
    intro pn j f wa w d r hj
    rw [fl_X6_drift_32]
    split
    · exact ⟨_, rfl, rfl⟩
    · rename_i hlt
      have h0 : i < m := by
        rcases Nat.lt_or_eq_of_le hi with h1 | h1
        · exact h1
        · rw [h1] at hlt; exact absurd (Int32.le_refl _) hlt
      obtain ⟨pn', j', hj', e1⟩ := rem6 pn 0 wa w d r j hj
      obtain ⟨x, w', d', r', e2⟩ := dr6 z0 z0 f w d r
      rw [e1]
      dsimp only
      rw [e2]
      dsimp only
      have e3 : nI i + (1 : Int32) = nI (i + 1) := (nI_succ i).symm
      rw [e3]
      exact lo6 m n (i + 1) (by omega) (by omega) pn' j' x wa w' d' r' hj'
theorem updn {f : Nat → Int32} {k j : Nat} {x : Int32} (h : j ≠ k) : upd f k x j = f j := by
  unfold upd
  first | exact if_neg h | exact if_neg (fun e => h e.symm) | simp [h]
theorem br7 (a b c : Nat) (ha : a + c ≤ 79) (hb : b + c ≤ 79) (h39 : 39 ≤ b) : ∀ (n i : Nat) (s : Nat → Int32), c < n + i → i ≤ c → ∃ s', fl_X7_bring_1_3 n s (nI a) (nI b) (nI c) (nI i) = some s' ∧ ∀ k, k < 39 → s' k = s k
  | 0, i, s, h, hi => absurd h (by omega)
  | n + 1, i, s, h, hi => by
    rw [fl_X7_bring_1_3]
    split
    · exact ⟨_, rfl, fun _ _ => rfl⟩
    · rename_i hlt
      have h0 : i < c := by
        rcases Nat.lt_or_eq_of_le hi with h1 | h1
        · exact h1
        · rw [h1] at hlt; exact absurd (Int32.le_refl _) hlt
      have e3 : nI i + (1 : Int32) = nI (i + 1) := (nI_succ i).symm
      have g : ∀ t, t < 79 → ¬ (nI t < 0 ∨ 79 ≤ (nI t).toNatClampNeg) := by
        intro t ht h
        rw [nI_clamp (by omega)] at h
        rcases h with h | h
        · rw [Int32.lt_iff_toInt_lt, nI_toInt (by omega)] at h
          have e2 : (0 : Int32).toInt = 0 := by decide
          omega
        · omega
      rw [nI_add, nI_add, e3, if_neg (g _ (by omega)), if_neg (g _ (by omega)), nI_clamp (n := b + i) (by omega)]
      obtain ⟨s', h1, h2⟩ := br7 a b c ha hb h39 n (i + 1) (upd s (b + i) (s (nI (a + i)).toNatClampNeg)) (by omega) (by omega)
      exact ⟨s', h1, fun k hk => (h2 k hk).trans (updn (by omega))⟩
def In7 (s : Nat → Int32) : Prop := s 5 = 0 ∧ s 2 = 0 ∧ ∃ j, j < 9 ∧ s 38 = nI j
theorem nt7 (s : Nat → Int32) (h : In7 s) : ∃ s', f_X7_note s = some s' ∧ In7 s' := by
  obtain ⟨h5, h2, j, hj, h38⟩ := h
  unfold f_X7_note f_X7_bring_1
  by_cases h8 : s 38 = 8
  · rw [if_pos h8]
    obtain ⟨s1, e1, k1⟩ := br7 44 39 35 (by omega) (by omega) (by omega) 300 0 s (by omega) (by omega)
    have e1' : fl_X7_bring_1_3 300 s (44 : Int32) (39 : Int32) (35 : Int32) (0 : Int32) = some s1 := e1
    rw [e1']
    dsimp only
    have e38 : (upd s1 38 (s1 38 - (1 : Int32))) 38 = nI 7 := by
      show s1 38 - 1 = nI 7
      rw [k1 38 (by omega), h8]
      decide
    rw [e38]
    have e4 : (39 : Int32) + (5 : Int32) * nI 7 = nI 74 := by decide
    rw [e4]
    obtain ⟨s2, e2, k2⟩ := br7 0 74 5 (by omega) (by omega) (by omega) 300 0 (upd s1 38 (s1 38 - (1 : Int32))) (by omega) (by omega)
    have e2' : fl_X7_bring_1_3 300 (upd s1 38 (s1 38 - (1 : Int32))) (0 : Int32) (nI 74) (5 : Int32) (0 : Int32) = some s2 := e2
    rw [e2']
    refine ⟨_, rfl, ?_, ?_, 8, by omega, ?_⟩
    · rw [updn (by omega), k2 5 (by omega), updn (by omega), k1 5 (by omega)]; exact h5
    · rw [updn (by omega), k2 2 (by omega), updn (by omega), k1 2 (by omega)]; exact h2
    · show s2 38 + 1 = nI 8
      rw [k2 38 (by omega), e38]
      decide
  · rw [if_neg h8]
    have hj8 : j ≠ 8 := by
      intro e
      rw [e] at h38
      exact h8 h38
    rw [h38]
    have e4 : (39 : Int32) + (5 : Int32) * nI j = nI (39 + 5 * j) := by
      have hh : ∀ j, j < 9 → (39 : Int32) + (5 : Int32) * nI j = nI (39 + 5 * j) := by decide
      exact hh j hj
    rw [e4]
    obtain ⟨s2, e2, k2⟩ := br7 0 (39 + 5 * j) 5 (by omega) (by omega) (by omega) 300 0 s (by omega) (by omega)
    have e2' : fl_X7_bring_1_3 300 s (0 : Int32) (nI (39 + 5 * j)) (5 : Int32) (0 : Int32) = some s2 := e2
    rw [e2']
    refine ⟨_, rfl, ?_, ?_, j + 1, by omega, ?_⟩
    · rw [updn (by omega), k2 5 (by omega)]; exact h5
    · rw [updn (by omega), k2 2 (by omega)]; exact h2
    · show s2 38 + 1 = nI (j + 1)
      rw [k2 38 (by omega), h38, nI_succ]
theorem pu7 (s : Nat → Int32) (p : Int32) (h5 : s 5 = 0) (h2 : s 2 = 0) : f_X7_pullIn s p = some (0, upd s 2 0) := by
  unfold f_X7_pullIn
  rw [fi7 h5]
  dsimp only
  rw [h2]
  rfl
theorem lo7 (m : Nat) : ∀ (n i : Nat), m < n + i → i ≤ m → ∀ (s : Nat → Int32), In7 s → ∃ q, fl_X7_drift_31 n s (nI m) (nI i) = some q ∧ q.1 = 0
  | 0, i, h, hi => fun _ _ => absurd h (by omega)
  | n + 1, i, h, hi => by
    intro s hs
    rw [fl_X7_drift_31]
    split
    · exact ⟨_, rfl, hs.2.1⟩
    · rename_i hlt
      have h0 : i < m := by
        rcases Nat.lt_or_eq_of_le hi with h1 | h1
        · exact h1
        · rw [h1] at hlt; exact absurd (Int32.le_refl _) hlt
      have e3 : nI i + (1 : Int32) = nI (i + 1) := (nI_succ i).symm
      obtain ⟨s1, e1, h5, h2, j, hj, h38⟩ := nt7 s hs
      rw [e1]
      dsimp only
      rw [e3]
      split
      · rw [pu7 _ _ (by rw [updn (by omega), updn (by omega)]; exact h5) (by rw [updn (by omega), updn (by omega)]; exact h2)]
        dsimp only
        refine lo7 m n (i + 1) (by omega) (by omega) _ ⟨?_, ?_, j, hj, ?_⟩
        · rw [updn (by omega), updn (by omega), updn (by omega), updn (by omega)]; exact h5
        · rw [updn (by omega)]; rfl
        · rw [updn (by omega), updn (by omega), updn (by omega), updn (by omega)]; exact h38
      · rw [pu7 _ _ (by rw [updn (by omega), updn (by omega)]; exact h5) (by rw [updn (by omega), updn (by omega)]; exact h2)]
        dsimp only
        refine lo7 m n (i + 1) (by omega) (by omega) _ ⟨?_, ?_, j, hj, ?_⟩
        · rw [updn (by omega), updn (by omega), updn (by omega), updn (by omega)]; exact h5
        · rw [updn (by omega)]; rfl
        · rw [updn (by omega), updn (by omega), updn (by omega), updn (by omega)]; exact h38
set_option maxRecDepth 100000 in
set_option maxHeartbeats 4000000 in
theorem pa_clause (a0 : Int32) (a1 : Int32) (a2 : Int32) (a3 : Int32) : ok1 (f_X6_clause z0 z0 z0 z0 (0 : Int32) (0 : Int32) (0 : Int32) a0 a1 a2 a3) (f_X7_clause zN a0 a1 a2 a3) (fun q => q.1) (fun q => q.1) := by
  have e5 : zN 5 = 0 := id rfl
  by_cases h1 : f_X6_isWithin a0 0 4 = 0
  · exact ok1_of (-1) (by unfold f_X6_clause; rw [if_pos h1]; rfl) (by unfold f_X7_clause; rw [i7, if_pos h1]; rfl)
  by_cases h2 : f_X6_isWithin a1 1 20 = 0
  · exact ok1_of (-1) (by unfold f_X6_clause; rw [if_neg h1, if_pos h2]; rfl) (by unfold f_X7_clause; simp only [i7]; rw [if_neg h1, if_pos h2]; rfl)
  by_cases h3 : f_X6_isWithin a2 0 (((1 : Int32) <<< ((0 : Int32) &&& (31 : Int32))) - (1 : Int32)) = 0
  · exact ok1_of (-1) (by unfold f_X6_clause; rw [if_neg h1, if_neg h2, if_pos h3]; rfl) (by unfold f_X7_clause; simp only [i7, e5]; rw [if_neg h1, if_neg h2, if_pos h3]; rfl)
  by_cases h4 : f_X6_isWithin a3 0 3 = 0
  · exact ok1_of (-1) (by unfold f_X6_clause; rw [if_neg h1, if_neg h2, if_neg h3, ip, if_pos h4]; rfl) (by unfold f_X7_clause; simp only [i7, e5]; rw [if_neg h1, if_neg h2, if_neg h3, if_pos h4]; rfl)
  refine ok1_of 0 ?_ ?_
  · unfold f_X6_clause
    rw [if_neg h1, if_neg h2, if_neg h3, ip, if_neg h4, if_pos (by decide)]
    with_unfolding_all rfl
  · unfold f_X7_clause
    simp only [i7, e5]
    rw [if_neg h1, if_neg h2, if_neg h3, if_neg h4, if_neg (by decide)]
    with_unfolding_all rfl
set_option maxRecDepth 100000 in
set_option maxHeartbeats 4000000 in
theorem pa_of (a0 : Int32) (a1 : Int32) : ok1 (f_X6_of z0 z0 z0 z0 (0 : Int32) (0 : Int32) (0 : Int32) (0 : Int32) a0 a1) (f_X7_of zN a0 a1) (fun q => q) (fun q => q) := by
  refine ok1_of (-1) ?_ ?_
  · unfold f_X6_of; rw [ic6, if_pos rfl]; rfl
  · unfold f_X7_of; rw [ic7, if_pos rfl]; rfl
set_option maxRecDepth 100000 in
set_option maxHeartbeats 4000000 in
theorem pa_party (a0 : Int32) (a1 : Int32) : ok1 (f_X6_party z0 (0 : Int32) (0 : Int32) a0 a1) (f_X7_party zN a0 a1) (fun q => q) (fun q => q) := by
  have o6 : f_X0_owedBy z0 0 a0 = some 0 := by with_unfolding_all rfl
  have o7 : f_X7_owedBy zN a0 = some 0 := by with_unfolding_all rfl
  by_cases h1 : f_X6_isWithin a0 0 3 = 0
  · exact ok1_of (-1) (by unfold f_X6_party; rw [ip, if_pos h1]; rfl) (by unfold f_X7_party; rw [i7, if_pos h1]; rfl)
  by_cases h2 : f_X6_isWithin a1 0 1 = 0
  · exact ok1_of (-1) (by unfold f_X6_party; rw [ip, if_neg h1, if_pos h2]; rfl) (by unfold f_X7_party; simp only [i7]; rw [if_neg h1, if_pos h2]; rfl)
  refine ok1_of 0 ?_ ?_
  · unfold f_X6_party
    rw [ip, if_neg h1, if_neg h2, o6]
    dsimp only
    split
    · rfl
    · rw [if_pos (by decide)]; rfl
  · unfold f_X7_party
    simp only [i7]
    rw [if_neg h1, if_neg h2, o7]
    dsimp only
    split
    · rfl
    · rw [if_pos (by decide)]; rfl
set_option maxRecDepth 100000 in
set_option maxHeartbeats 4000000 in
theorem pa_owe (a0 : Int32) (a1 : Int32) : ok1 (f_X6_owe z0 (0 : Int32) a0 a1) (f_X7_owe zN a0 a1) (fun q => q.1) (fun q => q.1) := by
  refine ok1_of (-1) ?_ ?_
  · unfold f_X6_owe; rw [ic6, if_pos rfl]; rfl
  · unfold f_X7_owe; rw [ic7, if_pos rfl]; rfl
set_option maxRecDepth 100000 in
set_option maxHeartbeats 4000000 in
theorem pa_type (a0 : Int32) : ok1 (f_X6_type z0 (0 : Int32) a0) (f_X7_type (0 : Int32) z0 a0) (fun q => q.1) (fun q => q.1) := by
  by_cases h1 : f_X6_isWithin a0 32 126 = 0
  · exact ok1_of (-1) (by unfold f_X6_type; rw [if_pos h1]; rfl) (by unfold f_X7_type; rw [i7, if_pos h1]; rfl)
  refine ok1_of 1 ?_ ?_
  · unfold f_X6_type; rw [if_neg h1]; with_unfolding_all rfl
  · unfold f_X7_type; rw [i7, if_neg h1]; with_unfolding_all rfl
set_option maxRecDepth 100000 in
set_option maxHeartbeats 4000000 in
theorem pa_agreement : ok1 (f_X6_agreement z0 z0 z0 z0 (0 : Int32) (0 : Int32) (0 : Int32) (0 : Int32) (0 : Int32) (0 : Int32) z0 z0 z0 z0 z0 (0 : Int32) (0 : Int32) (0 : Int32)) (f_X7_agreement (0 : Int32) z0 (0 : Int32) (0 : Int32) zN z0) (fun q => q.1) (fun q => q.1) := by
  exact ok1_of (-20) (by decide +kernel) (by decide +kernel)
set_option maxRecDepth 100000 in
set_option maxHeartbeats 4000000 in
theorem pa_count (a0 : Int32) : ok1 (f_X6_count z0 z0 (0 : Int32) (0 : Int32) (0 : Int32) (0 : Int32) (0 : Int32) (0 : Int32) a0) (f_X7_count zN a0) (fun q => q) (fun q => q) := by
  by_cases h0 : a0 = 0
  · subst h0; exact ok1_of 0 (by decide +kernel) (by decide +kernel)
  by_cases h1 : a0 = 1
  · subst h1; exact ok1_of 0 (by decide +kernel) (by decide +kernel)
  by_cases h2 : a0 = 2
  · subst h2; exact ok1_of 0 (by decide +kernel) (by decide +kernel)
  by_cases h3 : a0 = 3
  · subst h3; exact ok1_of 0 (by decide +kernel) (by decide +kernel)
  by_cases h4 : a0 = 4
  · subst h4; exact ok1_of 0 (by decide +kernel) (by decide +kernel)
  by_cases h5 : a0 = 5
  · subst h5; exact ok1_of 0 (by decide +kernel) (by decide +kernel)
  by_cases h6 : a0 = 6
  · subst h6; exact ok1_of 0 (by decide +kernel) (by decide +kernel)
  by_cases h7 : a0 = 7
  · subst h7; exact ok1_of 0 (by decide +kernel) (by decide +kernel)
  refine ok1_of (-1) ?_ ?_
  · unfold f_X6_count; rw [if_neg h0, if_neg h1, if_neg h2, if_neg h3, if_neg h4, if_neg h5, if_neg h6, if_neg h7]; rfl
  · unfold f_X7_count; rw [if_neg h0, if_neg h1, if_neg h2, if_neg h3, if_neg h4, if_neg h5, if_neg h6, if_neg h7]; rfl
set_option maxRecDepth 100000 in
set_option maxHeartbeats 4000000 in
theorem pa_pull (a0 : Int32) : ok1 (f_X6_pull z0 z0 z0 z0 (0 : Int32) z0 (0 : Int32) (0 : Int32) (0 : Int32) (0 : Int32) (1 : Int32) a0) (f_X7_pull zN a0) (fun q => q.1) (fun q => q.1) := by
  by_cases h1 : f_X6_isWithin a0 0 99 = 0
  · exact ok1_of (-1) (by unfold f_X6_pull; rw [if6, if_pos h1]; rfl) (by unfold f_X7_pull; rw [i7, if_pos h1]; rfl)
  refine ok1_of 0 ?_ ?_
  · unfold f_X6_pull
    rw [if6, if_neg h1]
    obtain ⟨r, hr⟩ := Option.isSome_iff_exists.mp rem0
    rw [hr]
    dsimp only
    obtain ⟨w, hw⟩ := Option.isSome_iff_exists.mp wei0
    unfold f_X4_undoBy
    rw [hw]
    dsimp only
    rw [fa6]
    rfl
  · unfold f_X7_pull
    rw [i7, if_neg h1, no7]
    dsimp only
    unfold f_X7_pullIn
    rw [fi7 no7_5]
    rfl
set_option maxRecDepth 100000 in
set_option maxHeartbeats 4000000 in
theorem pa_cut (a0 : Int32) : ok1 (f_X6_cut (0 : Int32) z0 (0 : Int32) (0 : Int32) (0 : Int32) (0 : Int32) (0 : Int32) (1 : Int32) a0) (f_X7_cut zN a0) (fun q => q.1) (fun q => q.1) := by
  refine ok1_of (-1) ?_ ?_
  · unfold f_X6_cut; rw [ic6, if_pos rfl]; rfl
  · unfold f_X7_cut; rw [ic7, if_pos rfl]; rfl
set_option maxRecDepth 100000 in
set_option maxHeartbeats 4000000 in
theorem pa_tie (a0 : Int32) : ok1 (f_X6_tie (0 : Int32) z0 (0 : Int32) (0 : Int32) (0 : Int32) (0 : Int32) (0 : Int32) (1 : Int32) a0) (f_X7_tie zN a0) (fun q => q.1) (fun q => q.1) := by
  refine ok1_of (-1) ?_ ?_
  · unfold f_X6_tie; rw [ic6, if_pos rfl]; rfl
  · unfold f_X7_tie; rw [ic7, if_pos rfl]; rfl
set_option maxRecDepth 100000 in
set_option maxHeartbeats 4000000 in
theorem pa_wet (a0 : Int32) : ok1 (f_X6_wet z0 z0 z0 (0 : Int32) (0 : Int32) (0 : Int32) (0 : Int32) (0 : Int32) (1 : Int32) a0) (f_X7_wet zN a0) (fun q => q.1) (fun q => q.1) := by
  by_cases h1 : f_X6_isWithin a0 0 1 = 0
  · exact ok1_of (-1) (by unfold f_X6_wet; rw [if_pos h1]; rfl) (by unfold f_X7_wet; rw [i7, if_pos h1]; rfl)
  obtain ⟨j, hj, rfl⟩ := wn 1 (by decide) h1
  have key : ∀ j, j < 2 → ((f_X6_wet z0 z0 z0 (0 : Int32) (0 : Int32) (0 : Int32) (0 : Int32) (0 : Int32) (1 : Int32) (nI j)).map (fun q => q.1) = (f_X7_wet zN (nI j)).map (fun q => q.1) ∧ (f_X6_wet z0 z0 z0 (0 : Int32) (0 : Int32) (0 : Int32) (0 : Int32) (0 : Int32) (1 : Int32) (nI j)).isSome = true) := by decide +kernel
  exact ok1_eq (key j hj)
set_option maxRecDepth 100000 in
set_option maxHeartbeats 4000000 in
theorem pa_days (a0 : Int32) : ok1 (f_X6_days z0 (0 : Int32) (0 : Int32) (0 : Int32) (0 : Int32) (0 : Int32) (1 : Int32) a0) (f_X7_days zN a0) (fun q => q.1) (fun q => q.1) := by
  by_cases h1 : f_X6_isWithin a0 1 99 = 0
  · exact ok1_of (-1) (by unfold f_X6_days; rw [if_pos h1]; rfl) (by unfold f_X7_days; rw [i7, if_pos h1]; rfl)
  obtain ⟨j, hj, rfl⟩ := wn 99 (by decide) (w1 h1)
  have key : ∀ j, j < 100 → ((f_X6_days z0 (0 : Int32) (0 : Int32) (0 : Int32) (0 : Int32) (0 : Int32) (1 : Int32) (nI j)).map (fun q => q.1) = (f_X7_days zN (nI j)).map (fun q => q.1) ∧ (f_X6_days z0 (0 : Int32) (0 : Int32) (0 : Int32) (0 : Int32) (0 : Int32) (1 : Int32) (nI j)).isSome = true) := by decide +kernel
  exact ok1_eq (key j hj)
set_option maxRecDepth 100000 in
set_option maxHeartbeats 4000000 in
theorem pa_drift (a0 : Int32) : ok1 (f_X6_drift z0 z0 z0 z0 (0 : Int32) z0 (0 : Int32) (0 : Int32) (0 : Int32) (0 : Int32) (1 : Int32) a0) (f_X7_drift zN a0) (fun q => q.1) (fun q => q.1) := by
  by_cases h1 : f_X6_isWithin a0 1 40 = 0
  · exact ok1_of (-1) (by unfold f_X6_drift; rw [if_pos h1]; rfl) (by unfold f_X7_drift; rw [i7, if_pos h1]; rfl)
  obtain ⟨j, hj, rfl⟩ := wn 40 (by decide) (w1 h1)
  have hd : (1 : Int32) + nI j ≤ ((Int16.ofInt 9999).toInt32) := by
    have hh : ∀ j, j < 41 → (1 : Int32) + nI j ≤ ((Int16.ofInt 9999).toInt32) := by decide
    exact hh j (by omega)
  have hd0 : (0 : Int32) + nI j ≤ ((Int16.ofInt 9999).toInt32) := by
    have hh : ∀ j, j < 41 → (0 : Int32) + nI j ≤ ((Int16.ofInt 9999).toInt32) := by decide
    exact hh j (by omega)
  refine ok1_of 0 ?_ ?_
  · unfold f_X6_drift
    rw [if_neg h1]
    first | rw [if_pos hd0] | rw [if_pos hd]
    obtain ⟨q, e, e0⟩ := lo6 j 300 0 (by omega) (by omega) z0 0 z0 0 0 0 1 (by omega)
    have e' : fl_X6_drift_32 300 z0 z0 z0 z0 0 z0 0 0 0 0 1 (nI j) 0 = some q := e
    rw [e', Option.map_some, e0]
  · unfold f_X7_drift
    rw [i7, if_neg h1]
    have hz : zN 0 + nI j ≤ ((Int16.ofInt 9999).toInt32) := hd0
    rw [if_pos hz]
    obtain ⟨q, e, e0⟩ := lo7 j 300 0 (by omega) (by omega) zN ⟨rfl, rfl, 0, by omega, rfl⟩
    have e' : fl_X7_drift_31 300 zN (nI j) 0 = some q := e
    rw [e', Option.map_some, e0]
set_option maxRecDepth 100000 in
set_option maxHeartbeats 4000000 in
theorem pa_undo : ok1 (f_X6_undo z0 (0 : Int32) (0 : Int32) (0 : Int32) (0 : Int32) (0 : Int32) (1 : Int32)) (f_X7_undo zN) (fun q => q.1) (fun q => q.1) := by
  exact ok1_of (-4) (by decide +kernel) (by decide +kernel)
set_option maxRecDepth 100000 in
set_option maxHeartbeats 4000000 in
theorem pa_seed (a0 : Int32) : ok1 (f_X6_seed (1 : Int32) a0) (f_X7_seed zN a0) (fun q => q.1) (fun q => q.1) := by
  by_cases h1 : a0 < 0
  · refine ok1_of (-1) ?_ ?_
    · unfold f_X6_seed
      first | rw [if_pos h1]; rfl | (rw [if_neg (by rw [Int32.not_le]; exact h1)]; rfl)
    · unfold f_X7_seed
      first | rw [if_pos h1]; rfl | (rw [if_neg (by rw [Int32.not_le]; exact h1)]; rfl)
  · refine ok1_of 1 ?_ ?_
    · unfold f_X6_seed
      first | rw [if_neg h1]; rfl | (rw [if_pos (Int32.not_lt.mp h1)]; rfl)
    · unfold f_X7_seed
      first | rw [if_neg h1]; rfl | (rw [if_pos (Int32.not_lt.mp h1)]; rfl)
set_option maxRecDepth 100000 in
set_option maxHeartbeats 4000000 in
theorem pa_falls (a0 : Int32) : ok1 (f_X6_falls z0 z0 z0 z0 (0 : Int32) (0 : Int32) (0 : Int32) a0) (f_X7_falls zN a0) (fun q => q.1) (fun q => q) := by
  by_cases h1 : f_X6_isWithin a0 0 99 = 0
  · exact ok1_of (-1) (by unfold f_X6_falls; rw [if6, if_pos h1]; rfl) (by unfold f_X7_falls; rw [i7, if_pos h1]; rfl)
  refine ok1_of 0 ?_ ?_
  · unfold f_X6_falls
    rw [if6, if_neg h1]
    obtain ⟨w, hw⟩ := Option.isSome_iff_exists.mp wei0
    rw [hw]
    dsimp only
    rw [fa6]
    rfl
  · unfold f_X7_falls
    rw [i7, if_neg h1, fi7 rfl]
    rfl
set_option maxRecDepth 100000 in
set_option maxHeartbeats 4000000 in
theorem pa_pulls (a0 : Int32) (a1 : Int32) : ok1 (f_X6_pulls z0 z0 z0 (0 : Int32) (0 : Int32) (0 : Int32) (0 : Int32) z0 a0 a1) (f_X7_pulls zN z0 a0 a1) (fun q => q.1) (fun q => q.1) := by
  refine ok1_of (-1) ?_ ?_
  · unfold f_X6_pulls; rw [ic6, if_pos rfl]; rfl
  · unfold f_X7_pulls; rw [ic7, if_pos rfl]; rfl
set_option maxRecDepth 100000 in
set_option maxHeartbeats 4000000 in
theorem pa_force (a0 : Int32) (a1 : Int32) : ok1 (f_X6_force z0 z0 z0 (0 : Int32) (0 : Int32) (0 : Int32) (0 : Int32) z0 a0 a1) (f_X7_force zN z0 a0 a1) (fun q => q.1) (fun q => q.1) := by
  refine ok1_of (-1) ?_ ?_
  · unfold f_X6_force; rw [ic6, if_pos rfl]; rfl
  · unfold f_X7_force; rw [ic7, if_pos rfl]; rfl
set_option maxRecDepth 100000 in
set_option maxHeartbeats 4000000 in
theorem pa_needs (a0 : Int32) : ok1 (f_X6_needs z0 (0 : Int32) (0 : Int32) a0) (f_X7_needs zN a0) (fun q => q) (fun q => q) := by
  refine ok1_of (-1) ?_ ?_
  · unfold f_X6_needs; rw [ic6, if_pos rfl]; rfl
  · unfold f_X7_needs; rw [ic7, if_pos rfl]; rfl
set_option maxRecDepth 100000 in
set_option maxHeartbeats 4000000 in
theorem pa_deep : ok1 (f_X6_deep z0 (0 : Int32) z0) (f_X7_deep zN z0) (fun q => q.1) (fun q => q.1) := by
  exact ok1_of 0 (by decide +kernel) (by decide +kernel)
set_option maxRecDepth 100000 in
set_option maxHeartbeats 4000000 in
theorem pa_frees (a0 : Int32) (a1 : Int32) : ok1 (f_X6_frees z0 z0 (0 : Int32) (0 : Int32) a0 a1) (f_X7_frees zN a0 a1) (fun q => q) (fun q => q) := by
  by_cases h1 : f_X6_isWithin a0 0 3 = 0
  · exact ok1_of (-1) (by unfold f_X6_frees; rw [ip, if_pos h1]; rfl) (by unfold f_X7_frees; rw [i7, if_pos h1]; rfl)
  by_cases h2 : f_X6_isWithin a1 0 1 = 0
  · exact ok1_of (-1) (by unfold f_X6_frees; rw [ip, if_neg h1, if_pos h2]; rfl) (by unfold f_X7_frees; simp only [i7]; rw [if_neg h1, if_pos h2]; rfl)
  obtain ⟨i, hi, rfl⟩ := wn 3 (by decide) h1
  obtain ⟨j, hj, rfl⟩ := wn 1 (by decide) h2
  have key : ∀ i, i < 4 → ∀ j, j < 2 → ((f_X6_frees z0 z0 (0 : Int32) (0 : Int32) (nI i) (nI j)).map (fun q => q) = (f_X7_frees zN (nI i) (nI j)).map (fun q => q) ∧ (f_X6_frees z0 z0 (0 : Int32) (0 : Int32) (nI i) (nI j)).isSome = true) := by decide +kernel
  exact ok1_eq (key i hi j hj)
set_option maxRecDepth 100000 in
set_option maxHeartbeats 4000000 in
theorem pa_orders (a0 : Int32) : ok1 (f_X6_orders z0 (0 : Int32) z0 z0 a0) (f_X7_orders zN z0 a0) (fun q => q.1) (fun q => q.1) := by
  by_cases h1 : (-1 : Int32) ≤ a0
  · by_cases h2 : a0 = -1
    · subst h2
      exact ok1_of 1 (by decide +kernel) (by decide +kernel)
    · refine ok1_of (-4) ?_ ?_
      · unfold f_X6_orders; rw [if_pos h1, if_neg h2]; with_unfolding_all rfl
      · unfold f_X7_orders; rw [if_pos h1, if_neg h2]; with_unfolding_all rfl
  · refine ok1_of (-1) ?_ ?_
    · unfold f_X6_orders; rw [if_neg h1]; rfl
    · unfold f_X7_orders; rw [if_neg h1]; rfl
set_option maxRecDepth 100000 in
set_option maxHeartbeats 4000000 in
theorem pa_ahead (a0 : Int32) (a1 : Int32) (a2 : Int32) : ok1 (f_X6_ahead z0 (0 : Int32) (0 : Int32) z0 z0 a0 a1 a2) (f_X7_ahead zN z0 a0 a1 a2) (fun q => q.1) (fun q => q.1) := by
  refine ok1_of (-1) ?_ ?_
  · unfold f_X6_ahead; rw [ic6, if_pos rfl]; rfl
  · unfold f_X7_ahead; rw [ic7, if_pos rfl]; rfl
set_option maxRecDepth 100000 in
set_option maxHeartbeats 4000000 in
theorem pa_game (a0 : Int32) (a1 : Int32) : ok1 (f_X6_game z0 (0 : Int32) a0 a1) (f_X7_game zN z0 a0 a1) (fun q => q) (fun q => q.1) := by
  by_cases h1 : f_X6_isWithin a0 0 1 = 0
  · exact ok1_of (-1) (by unfold f_X6_game; rw [if_pos h1]; rfl) (by unfold f_X7_game; rw [i7, if_pos h1]; rfl)
  by_cases h2 : f_X6_isWithin a1 0 1 = 0
  · exact ok1_of (-1) (by unfold f_X6_game; rw [if_neg h1, if_pos h2]; rfl) (by unfold f_X7_game; simp only [i7]; rw [if_neg h1, if_pos h2]; rfl)
  obtain ⟨i, hi, rfl⟩ := wn 1 (by decide) h1
  obtain ⟨j, hj, rfl⟩ := wn 1 (by decide) h2
  have key : ∀ i, i < 2 → ∀ j, j < 2 → ((f_X6_game z0 (0 : Int32) (nI i) (nI j)).map (fun q => q) = (f_X7_game zN z0 (nI i) (nI j)).map (fun q => q.1) ∧ (f_X6_game z0 (0 : Int32) (nI i) (nI j)).isSome = true) := by decide +kernel
  exact ok1_eq (key i hi j hj)
set_option maxRecDepth 100000 in
set_option maxHeartbeats 4000000 in
theorem pa_cuts (a0 : Int32) (a1 : Int32) (a2 : Int32) : ok1 (f_X6_cuts z0 z0 z0 (0 : Int32) (0 : Int32) (0 : Int32) (0 : Int32) a0 a1 a2) (f_X7_cuts zN z0 a0 a1 a2) (fun q => q) (fun q => q.1) := by
  refine ok1_of (-1) ?_ ?_
  · unfold f_X6_cuts; rw [ic6, if_pos rfl]; rfl
  · unfold f_X7_cuts; rw [ic7, if_pos rfl]; rfl
set_option maxRecDepth 100000 in
set_option maxHeartbeats 4000000 in
theorem pa_weather (a0 : Int32) (a1 : Int32) : ok1 (f_X6_weather z0 z0 (0 : Int32) (0 : Int32) (0 : Int32) a0 a1) (f_X7_weather zN z0 a0 a1) (fun q => q) (fun q => q.1) := by
  refine ok1_of (-1) ?_ ?_
  · unfold f_X6_weather; rw [ic6, if_pos rfl]; rfl
  · unfold f_X7_weather; rw [ic7, if_pos rfl]; rfl
set_option maxRecDepth 100000 in
set_option maxHeartbeats 4000000 in
theorem pa_rotten (a0 : Int32) (a1 : Int32) (a2 : Int32) (a3 : Int32) : ok1 (f_X6_rotten z0 z0 z0 (0 : Int32) (0 : Int32) (0 : Int32) (0 : Int32) a0 a1 a2 a3) (f_X7_rotten zN z0 a0 a1 a2 a3) (fun q => q) (fun q => q.1) := by
  refine ok1_of (-1) ?_ ?_
  · unfold f_X6_rotten; rw [ic6, if_pos rfl]; rfl
  · unfold f_X7_rotten; rw [ic7, if_pos rfl]; rfl
set_option maxRecDepth 100000 in
set_option maxHeartbeats 4000000 in
theorem pa_image : ok1 (f_X6_image z0 z0 z0 z0 (0 : Int32) z0 (0 : Int32) (0 : Int32) (0 : Int32) (0 : Int32) (0 : Int32) (1 : Int32) z0 z0 z0 z0 (0 : Int32) z0 (0 : Int32) (0 : Int32) (0 : Int32) (0 : Int32) (0 : Int32) (1 : Int32) (0 : Int32)) (f_X7_image zN z0 (0 : Int32)) (fun q => q.1) (fun q => q.1) := by
  exact ok1_of 1 (by decide +kernel) (by decide +kernel)
set_option maxRecDepth 100000 in
set_option maxHeartbeats 4000000 in
theorem pa_restore : ok1 (f_X6_restore z0 z0 z0 z0 (0 : Int32) z0 (0 : Int32) (0 : Int32) (0 : Int32) (0 : Int32) (0 : Int32) (1 : Int32) z0 z0 z0 z0 (0 : Int32) z0 (0 : Int32) (0 : Int32) (0 : Int32) (0 : Int32) (0 : Int32) (1 : Int32) (0 : Int32)) (f_X7_restore zN z0 (0 : Int32)) (fun q => q.1) (fun q => q.1) := by
  exact ok1_of (-4) (by decide +kernel) (by decide +kernel)
set_option maxRecDepth 100000 in
set_option maxHeartbeats 4000000 in
theorem pa_felt (a0 : Int32) (a1 : Int32) (a2 : Int32) (a3 : Int32) (a4 : Int32) (a5 : Int32) : ok1 (f_X6_felt z0 z0 z0 (0 : Int32) z0 (0 : Int32) (0 : Int32) (0 : Int32) zM z0 zL a0 a1 a2 a3 a4 a5) (f_X7_felt zM z0 zL zN z0 a0 a1 a2 a3 a4 a5) (fun q => q.1) (fun q => q.1) := by
  refine ok1_of (-1) ?_ ?_
  · unfold f_X6_felt; rw [ic6, if_pos rfl]; rfl
  · unfold f_X7_felt; rw [ic7, if_pos rfl]; rfl
set_option maxRecDepth 100000 in
set_option maxHeartbeats 4000000 in
theorem pa_film (a0 : Int32) (a1 : Int32) (a2 : Int32) (a3 : Int32) (a4 : Int32) : ok1 (f_X6_film z0 z0 z0 z0 (0 : Int32) (0 : Int32) (0 : Int32) zM z0 zL a0 a1 a2 a3 a4) (f_X7_film zM z0 zL zN z0 a0 a1 a2 a3 a4) (fun q => q.1) (fun q => q.1) := by
  by_cases h1 : f_X6_isWithin a0 0 99 = 0
  · exact ok1_of (-1) (by unfold f_X6_film; rw [if6, if_pos h1]; rfl) (by unfold f_X7_film; rw [i7, if_pos h1]; rfl)
  by_cases h2 : f_X6_isWithin a1 1 24 = 0
  · exact ok1_of (-1) (by unfold f_X6_film; rw [if6, if_neg h1, if_pos h2]; rfl) (by unfold f_X7_film; simp only [i7]; rw [if_neg h1, if_pos h2]; rfl)
  by_cases h3 : f_X6_isWithin a2 0 3 = 0
  · exact ok1_of (-1) (by unfold f_X6_film; rw [if6, if_neg h1, if_neg h2, is6, if_pos h3]; rfl) (by unfold f_X7_film; simp only [i7, is7]; rw [if_neg h1, if_neg h2, if_pos h3]; rfl)
  by_cases h4 : f_X6_isWithin a3 0 3 = 0
  · exact ok1_of (-1) (by unfold f_X6_film; rw [if6, if_neg h1, if_neg h2, is6, if_neg h3, il6, if_pos h4]; rfl) (by unfold f_X7_film; simp only [i7, is7]; rw [if_neg h1, if_neg h2, if_neg h3, if_pos h4]; rfl)
  obtain ⟨j, hj, rfl⟩ := wn 3 (by decide) h3
  refine ok1_of (-11) ?_ ?_
  · unfold f_X6_film; rw [if6, if_neg h1, if_neg h2, is6, if_neg h3, il6, if_neg h4, fo6 hj]; rfl
  · unfold f_X7_film; simp only [i7, is7]; rw [if_neg h1, if_neg h2, if_neg h3, if_neg h4, wr7 hj]; rfl
set_option maxRecDepth 100000 in
set_option maxHeartbeats 4000000 in
theorem pa_sheet (a0 : Int32) (a1 : Int32) (a2 : Int32) : ok1 (f_X6_sheet zM z0 zL a0 a1 a2) (f_X7_sheet zM z0 zL a0 a1 a2) (fun q => q.1) (fun q => q.1) := by
  by_cases h1 : f_X6_isWithin a0 0 3 = 0
  · exact ok1_of (-1) (by unfold f_X6_sheet; rw [is6, if_pos h1]; rfl) (by unfold f_X7_sheet; rw [is7, if_pos h1]; rfl)
  by_cases h2 : f_X6_isWithin a1 0 3 = 0
  · exact ok1_of (-1) (by unfold f_X6_sheet; rw [is6, if_neg h1, il6, if_pos h2]; rfl) (by unfold f_X7_sheet; rw [is7, if_neg h1, i7, if_pos h2]; rfl)
  by_cases h3 : a2 ≤ 24
  · by_cases h4 : 0 ≤ a2
    · obtain ⟨i, hi, rfl⟩ := wn 3 (by decide) h1
      obtain ⟨k, hk, rfl⟩ := wn 3 (by decide) h2
      obtain ⟨n, hn, rfl⟩ := nI_of2 (M := 24) (n := 24) (by decide) (Int32.not_lt.mpr h4) h3
      have key : ∀ i, i < 4 → ∀ k, k < 4 → ∀ n, n < 25 → ((f_X6_sheet zM z0 zL (nI i) (nI k) (nI n)).map (fun q => q.1) = (f_X7_sheet zM z0 zL (nI i) (nI k) (nI n)).map (fun q => q.1) ∧ (f_X6_sheet zM z0 zL (nI i) (nI k) (nI n)).isSome = true) := by decide +kernel
      exact ok1_eq (key i (by omega) k (by omega) n (by omega))
    · exact ok1_of (-14) (by unfold f_X6_sheet; rw [is6, if_neg h1, il6, if_neg h2, if_pos h3, if_neg h4]; rfl) (by unfold f_X7_sheet; rw [is7, if_neg h1, i7, if_neg h2, if_pos h3, if_neg h4]; rfl)
  · exact ok1_of (-1) (by unfold f_X6_sheet; rw [is6, if_neg h1, il6, if_neg h2, if_neg h3]; rfl) (by unfold f_X7_sheet; rw [is7, if_neg h1, i7, if_neg h2, if_neg h3]; rfl)
set_option maxRecDepth 100000 in
set_option maxHeartbeats 4000000 in
theorem pa_drop (a0 : Int32) : ok1 (f_X6_drop zM z0 a0) (f_X7_drop zM z0 a0) (fun q => q.1) (fun q => q.1) := by
  by_cases h1 : f_X6_isWithin a0 0 3 = 0
  · exact ok1_of (-1) (by unfold f_X6_drop; rw [is6, if_pos h1]; rfl) (by unfold f_X7_drop; rw [is7, if_pos h1]; rfl)
  obtain ⟨j, hj, rfl⟩ := wn 3 (by decide) h1
  have key : ∀ j, j < 4 → ((f_X6_drop zM z0 (nI j)).map (fun q => q.1) = (f_X7_drop zM z0 (nI j)).map (fun q => q.1) ∧ (f_X6_drop zM z0 (nI j)).isSome = true) := by decide +kernel
  exact ok1_eq (key j hj)
set_option maxRecDepth 100000 in
set_option maxHeartbeats 4000000 in
theorem pa_item (a0 : Int32) (a1 : Int32) (a2 : Int32) (a3 : Int64) : ok1 (f_X6_item zM z0 zL a0 a1 a2 a3) (f_X7_item zM z0 zL a0 a1 a2 a3) (fun q => q.1) (fun q => q.1) := by
  by_cases h1 : f_X6_isWithin a0 0 3 = 0
  · exact ok1_of (-1) (by unfold f_X6_item; rw [is6, if_pos h1]; rfl) (by unfold f_X7_item; rw [is7, if_pos h1]; rfl)
  by_cases h2 : f_X6_isWithin a1 0 3 = 0
  · exact ok1_of (-1) (by unfold f_X6_item; rw [is6, if_neg h1, il6, if_pos h2]; rfl) (by unfold f_X7_item; rw [is7, if_neg h1, i7, if_pos h2]; rfl)
  obtain ⟨j, hj, rfl⟩ := wn 3 (by decide) h1
  refine ok1_of (-11) ?_ ?_
  · unfold f_X6_item; rw [is6, if_neg h1, il6, if_neg h2, fo6 hj]; rfl
  · unfold f_X7_item; rw [is7, if_neg h1, i7, if_neg h2, wr7 hj]; rfl
set_option maxRecDepth 100000 in
set_option maxHeartbeats 4000000 in
theorem pa_copy (a0 : Int32) (a1 : Int32) (a2 : Int32) (a3 : Int32) (a4 : Int32) : ok1 (f_X6_copy zM z0 zL a0 a1 a2 a3 a4) (f_X7_copy zM z0 zL a0 a1 a2 a3 a4) (fun q => q.1) (fun q => q.1) := by
  by_cases h1 : f_X6_isWithin a0 0 3 = 0
  · exact ok1_of (-1) (by unfold f_X6_copy; rw [is6, if_pos h1]; rfl) (by unfold f_X7_copy; rw [is7, if_pos h1]; rfl)
  by_cases h2 : f_X6_isWithin a2 0 3 = 0
  · exact ok1_of (-1) (by unfold f_X6_copy; simp only [is6]; rw [if_neg h1, if_pos h2]; rfl) (by unfold f_X7_copy; simp only [is7]; rw [if_neg h1, if_pos h2]; rfl)
  obtain ⟨j, hj, rfl⟩ := wn 3 (by decide) h1
  refine ok1_of (-11) ?_ ?_
  · unfold f_X6_copy; simp only [is6]; rw [if_neg h1, if_neg h2, ca6 hj]; rfl
  · unfold f_X7_copy; simp only [is7]; rw [if_neg h1, if_neg h2]
    have : j = 0 ∨ j = 1 ∨ j = 2 ∨ j = 3 := by omega
    rcases this with rfl | rfl | rfl | rfl <;> with_unfolding_all rfl
