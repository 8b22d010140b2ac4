/-! 50: numbers, sets, loops -/
theorem sd_tb {a b c : Nat} (hc : c < 8) : (sd a b).testBit c = (a.testBit c && !b.testBit c) := by
  unfold sd
  rw [Nat.testBit_and, Nat.testBit_xor, kb_255 c hc, Bool.xor_true]
theorem sd_lt {a b m : Nat} (h : a < m) : sd a b < m := Nat.lt_of_le_of_lt Nat.and_le_left h
theorem h6t {a c : Nat} (ha : a < 256) (hc : c < 8) (h : a.testBit c = true) : ¬ f_X6_has (nI a) (nI c) = 0 := by
  rw [kb_h6 a ha c hc, if_pos h]; decide
theorem h6f {a c : Nat} (ha : a < 256) (hc : c < 8) (h : a.testBit c = false) : f_X6_has (nI a) (nI c) = 0 := by
  rw [kb_h6 a ha c hc, if_neg (by rw [h]; decide)]
theorem h7t {a c : Nat} (ha : a < 256) (hc : c < 8) (h : a.testBit c = true) : ¬ f_X7_has (nI a) (nI c) = 0 := by
  rw [kb_h7 a ha c hc, if_pos h]; decide
theorem h7f {a c : Nat} (ha : a < 256) (hc : c < 8) (h : a.testBit c = false) : f_X7_has (nI a) (nI c) = 0 := by
  rw [kb_h7 a ha c hc, if_neg (by rw [h]; decide)]
theorem kb8 {c : Nat} (h : c < 8) : ¬ (8 : Int32) ≤ nI c := nI_ge h (by decide)
theorem kb_ne {a b : Nat} (h : a < b) (hb : b < 2 ^ 31) : ¬ nI b ≤ nI a := nI_ge h hb
def ng (P : Nat → Bool) : Nat → Nat
  | 0 => 0
  | k + 1 => ng P k ||| (if P k then 2 ^ k else 0)
theorem ng_lt (P : Nat → Bool) : ∀ k, ng P k < 2 ^ k
  | 0 => by show 0 < 1; omega
  | k + 1 => by
    have h := ng_lt P k
    have h2 : 2 ^ k < 2 ^ (k + 1) := Nat.pow_lt_pow_right (by omega) (by omega)
    show ng P k ||| (if P k then 2 ^ k else 0) < 2 ^ (k + 1)
    refine Nat.or_lt_two_pow (by omega) ?_
    split <;> omega
theorem ng_tb (P : Nat → Bool) : ∀ k c, (ng P k).testBit c = (decide (c < k) && P c)
  | 0, c => by
    show Nat.testBit 0 c = _
    rw [Nat.zero_testBit, decide_eq_false (by omega)]; rfl
  | k + 1, c => by
    show (ng P k ||| (if P k then 2 ^ k else 0)).testBit c = _
    rw [Nat.testBit_or, ng_tb P k c]
    by_cases h : c = k
    · subst h
      rw [decide_eq_false (by omega), decide_eq_true (by omega)]
      cases hp : P c
      · rw [if_neg (by decide), Nat.zero_testBit]; rfl
      · rw [if_pos rfl, Nat.testBit_two_pow, decide_eq_true rfl]; rfl
    · have e : (if P k then 2 ^ k else 0).testBit c = false := by
        split
        · rw [Nat.testBit_two_pow, decide_eq_false (by omega)]
        · exact Nat.zero_testBit c
      rw [e, Bool.or_false]
      by_cases h2 : c < k
      · rw [decide_eq_true h2, decide_eq_true (by omega)]
      · rw [decide_eq_false h2, decide_eq_false (by omega)]
theorem ng_ext {P Q : Nat → Bool} : ∀ k, (∀ c, c < k → P c = Q c) → ng P k = ng Q k
  | 0, _ => rfl
  | k + 1, h => by
    show ng P k ||| (if P k then 2 ^ k else 0) = ng Q k ||| (if Q k then 2 ^ k else 0)
    rw [ng_ext k (fun c hc => h c (by omega)), h k (by omega)]
theorem ng_cut {P Q : Nat → Bool} {n m : Nat} (hn : n ≤ m) (h1 : ∀ c, c < n → P c = Q c) (h2 : ∀ c, n ≤ c → c < m → P c = false) : ng P m = ng Q n := by
  apply Nat.eq_of_testBit_eq
  intro c
  rw [ng_tb, ng_tb]
  by_cases a : c < n
  · rw [decide_eq_true a, decide_eq_true (by omega), h1 c a]
  · rw [decide_eq_false a]
    by_cases b : c < m
    · rw [h2 c (by omega) b, Bool.and_false, Bool.false_and]
    · rw [decide_eq_false b, Bool.false_and, Bool.false_and]
theorem ng_self {t k : Nat} (h : t < 2 ^ k) : ng t.testBit k = t := by
  apply Nat.eq_of_testBit_eq
  intro c
  rw [ng_tb]
  by_cases a : c < k
  · rw [decide_eq_true a, Bool.true_and]
  · rw [decide_eq_false a, Bool.false_and]
    exact (Nat.testBit_lt_two_pow (Nat.lt_of_lt_of_le h (Nat.pow_le_pow_right (by omega) (by omega)))).symm
theorem ng_f {P : Nat → Bool} {c : Nat} (h : P c = false) : ng P (c + 1) = ng P c := by
  show ng P c ||| (if P c then 2 ^ c else 0) = ng P c
  rw [h, if_neg (by decide), Nat.or_zero]
theorem ng_t {P : Nat → Bool} {c : Nat} (hc : c < 31) (h : P c = true) : nI (ng P c) ||| ((1 : Int32) <<< (nI c &&& 31)) = nI (ng P (c + 1)) := by
  rw [kb_bt c hc, kb_or]
  show _ = nI (ng P c ||| (if P c then 2 ^ c else 0))
  rw [h, if_pos rfl]
theorem or0 (x : Int32) : x ||| 0 = x := Int32.or_zero
/-- a loop that counts upward -/
theorem lp {S R : Type} (F : Nat → S → Nat → Option R) (N : Nat) (I : Nat → S → Prop) (Q : R → Prop)
    (stop : ∀ n s, I N s → ∃ r, F (n + 1) s N = some r ∧ Q r)
    (step : ∀ n s c, c < N → I c s → (∃ r, F (n + 1) s c = some r ∧ Q r) ∨ (∃ s', I (c + 1) s' ∧ F (n + 1) s c = F n s' (c + 1))) :
    ∀ m n s c, c + m = N → m < n → I c s → ∃ r, F n s c = some r ∧ Q r := by
  intro m
  induction m with
  | zero =>
    intro n s c hc hn hi
    obtain ⟨k, rfl⟩ : ∃ k, n = k + 1 := ⟨n - 1, by omega⟩
    have hcN : c = N := by omega
    subst hcN
    exact stop k s hi
  | succ m ih =>
    intro n s c hc hn hi
    obtain ⟨k, rfl⟩ : ∃ k, n = k + 1 := ⟨n - 1, by omega⟩
    rcases step k s c (by omega) hi with h | ⟨s', hi', e⟩
    · exact h
    · rw [e]
      exact ih k s' (c + 1) (by omega) (by omega) hi'
/-- a loop that gathers a set -/
theorem lpo (F : Nat → Int32 → Nat → Option Int32) (N : Nat) (P : Nat → Bool) (hN : N < 31)
    (stop : ∀ n s, F (n + 1) s N = some s)
    (st : ∀ n s c, c < N → P c = true → F (n + 1) s c = F n (s ||| ((1 : Int32) <<< (nI c &&& 31))) (c + 1))
    (sf : ∀ n s c, c < N → P c = false → F (n + 1) s c = F n s (c + 1) ∨ F (n + 1) s c = F n (s ||| 0) (c + 1)) :
    F 300 0 0 = some (nI (ng P N)) := by
  obtain ⟨r, e, q⟩ := lp F N (fun c s => s = nI (ng P c)) (fun r => r = nI (ng P N))
    (fun n s hs => ⟨s, stop n s, hs⟩)
    (fun n s c hc hs => by
      right
      subst hs
      cases hp : P c
      · refine ⟨_, rfl, ?_⟩
        rw [ng_f hp]
        rcases sf n (nI (ng P c)) c hc hp with h | h
        · exact h
        · rw [or0] at h; exact h
      · exact ⟨_, rfl, by rw [st n _ c hc hp, ng_t (by omega) hp]⟩)
    N 300 0 0 (by omega) (by omega) rfl
  rw [q] at e
  exact e
theorem upd_eq {f : Nat → Int32} {k : Nat} {x : Int32} : upd f k x k = x := if_pos rfl
theorem upd_ne {f : Nat → Int32} {k j : Nat} {x : Int32} (h : j ≠ k) : upd f k x j = f j := if_neg h
theorem kb_wi {v a b : Int32} : f_X6_isWithin v a b = 0 ∨ (f_X6_isWithin v a b = 1 ∧ a ≤ v ∧ v ≤ b) := by
  unfold f_X6_isWithin
  split
  · exact Or.inl rfl
  · split
    · exact Or.inl rfl
    · rename_i h1 h2
      exact Or.inr ⟨rfl, Int32.not_lt.mp h1, Int32.not_lt.mp h2⟩
theorem kb_win {v : Int32} {a b : Nat} (ha : a < 2 ^ 31) (hb : b < 2 ^ 31) (h : ¬ f_X6_isWithin v (nI a) (nI b) = 0) : ∃ j, a ≤ j ∧ j ≤ b ∧ v = nI j := by
  rcases kb_wi (v := v) (a := nI a) (b := nI b) with h1 | ⟨-, h1, h2⟩
  · exact absurd h1 h
  · have h0 : ¬ v < 0 := by
      intro hv
      have h3 := nI_toInt (n := a) ha
      have h4 : (0 : Int32).toInt = 0 := by decide
      rw [Int32.lt_iff_toInt_lt] at hv
      rw [Int32.le_iff_toInt_le] at h1
      omega
    obtain ⟨j, hj, e⟩ := nI_of2 (nI_toInt hb) h0 h2
    subst e
    exact ⟨j, (nI_leI ha (by omega)).mp h1, hj, rfl⟩
theorem kb_in7 (a b c : Int32) : f_X7_in a b c = f_X6_isWithin a b c := id rfl
