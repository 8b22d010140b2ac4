/-! 5h: rotten answers alike -/
def prd (h : Nat → Nat) : Nat → Nat
  | 0 => 1
  | k + 1 => prd h k * h k
theorem prd_ext {f g : Nat → Nat} : ∀ k, (∀ c, c < k → f c = g c) → prd f k = prd g k
  | 0, _ => rfl
  | k + 1, h => by
    show prd f k * f k = prd g k * g k
    rw [prd_ext k (fun c hc => h c (by omega)), h k (by omega)]
theorem prd_zero {f : Nat → Nat} {c : Nat} (h0 : f c = 0) : ∀ k, c < k → prd f k = 0
  | 0, h => absurd h (by omega)
  | k + 1, h => by
    show prd f k * f k = 0
    by_cases e : c = k
    · subst e; rw [h0, Nat.mul_zero]
    · rw [prd_zero h0 k (by omega), Nat.zero_mul]
theorem sm8_split (f : Nat → Nat) (a : Nat) : ∀ b, sm8 f (a + b) = sm8 f a + sm8 (fun i => f (a + i)) b
  | 0 => rfl
  | b + 1 => by
    show sm8 f (a + b) + f (a + b) = sm8 f a + (sm8 (fun i => f (a + i)) b + f (a + b))
    rw [sm8_split f a b]
    omega
theorem sm8_mul (f : Nat → Nat) (t : Nat) : ∀ k, sm8 (fun c => f c * t) k = sm8 f k * t
  | 0 => (Nat.zero_mul t).symm
  | k + 1 => by
    show sm8 (fun c => f c * t) k + f k * t = (sm8 f k + f k) * t
    rw [sm8_mul f t k, Nat.add_mul]
theorem sum_prod (g : Nat → Bool → Nat) : ∀ k, sm8 (fun s => prd (fun c => g c (s.testBit c)) k) (2 ^ k) = prd (fun c => g c false + g c true) k
  | 0 => rfl
  | k + 1 => by
    have ih := sum_prod g k
    rw [show 2 ^ (k + 1) = 2 ^ k + 2 ^ k by rw [Nat.pow_succ]; omega, sm8_split]
    have e1 : sm8 (fun s => prd (fun c => g c (s.testBit c)) (k + 1)) (2 ^ k) = sm8 (fun s => prd (fun c => g c (s.testBit c)) k) (2 ^ k) * g k false := by
      rw [← sm8_mul]
      refine sm8_ext _ (fun s hs => ?_)
      show prd (fun c => g c (s.testBit c)) k * g k (s.testBit k) = _
      rw [Nat.testBit_lt_two_pow hs]
    have e2 : sm8 (fun i => prd (fun c => g c ((2 ^ k + i).testBit c)) (k + 1)) (2 ^ k) = sm8 (fun s => prd (fun c => g c (s.testBit c)) k) (2 ^ k) * g k true := by
      rw [← sm8_mul]
      refine sm8_ext _ (fun s hs => ?_)
      show prd (fun c => g c ((2 ^ k + s).testBit c)) k * g k ((2 ^ k + s).testBit k) = _
      rw [Nat.testBit_two_pow_add_eq, Nat.testBit_lt_two_pow hs, Bool.not_false]
      congr 1
      refine prd_ext k (fun c hc => ?_)
      rw [Nat.testBit_two_pow_add_gt hc]
    rw [e1, e2, ih, ← Nat.mul_add]
    rfl
/-- a product by what a clause is -/
theorem prd_val {x v c A B D : Nat} (hcx : x.testBit c = true) (hvx : ∀ j, v.testBit j = true → x.testBit j = true) (hcv : v.testBit c = false) : ∀ k, k ≤ 8 → prd (fun e => if x.testBit e = true then (if e = c then A else (if v.testBit e = true then B else D)) else 1) k = (if c < k then A else 1) * B ^ pcn v k * D ^ pcn (sd (sd x v) (2 ^ c)) k
  | 0, _ => by
    show 1 = (if c < 0 then A else 1) * B ^ 0 * D ^ 0
    rw [if_neg (by omega), Nat.pow_zero, Nat.pow_zero]
  | k + 1, hk => by
    have ih := prd_val (A := A) (B := B) (D := D) hcx hvx hcv k (by omega)
    show prd _ k * (if x.testBit k = true then (if k = c then A else (if v.testBit k = true then B else D)) else 1) = (if c < k + 1 then A else 1) * B ^ (pcn v k + (if v.testBit k then 1 else 0)) * D ^ (pcn (sd (sd x v) (2 ^ c)) k + (if (sd (sd x v) (2 ^ c)).testBit k then 1 else 0))
    rw [ih, sd_tb (show k < 8 by omega), sd_tb (show k < 8 by omega), Nat.testBit_two_pow]
    by_cases e : k = c
    · subst e
      rw [hcx, hcv, if_pos rfl, if_pos rfl, if_neg (show ¬ k < k by omega), if_pos (show k < k + 1 by omega), decide_eq_true rfl]
      simp [Nat.mul_comm, Nat.mul_left_comm, Nat.mul_assoc]
    · have hlt : (c < k + 1) ↔ c < k := by omega
      have hif : (if c < k + 1 then A else 1) = (if c < k then A else 1) := by
        by_cases h : c < k
        · rw [if_pos h, if_pos (by omega)]
        · rw [if_neg h, if_neg (by omega)]
      rw [hif, decide_eq_false (fun h => e h.symm)]
      cases hxk : x.testBit k
      · have hvk : v.testBit k = false := by
          cases hh : v.testBit k
          · rfl
          · rw [hvx k hh] at hxk; exact absurd hxk (by decide)
        rw [hvk]
        simp
      · cases hvk : v.testBit k
        · simp [e, Nat.pow_succ, Nat.mul_assoc]
        · simp [e, Nat.pow_succ, Nat.mul_comm, Nat.mul_left_comm, Nat.mul_assoc]
theorem prd_tot {x D : Nat} : ∀ k, prd (fun e => if x.testBit e = true then D else 1) k = D ^ pcn x k
  | 0 => rfl
  | k + 1 => by
    show prd _ k * (if x.testBit k = true then D else 1) = D ^ (pcn x k + (if x.testBit k then 1 else 0))
    rw [prd_tot k]
    cases x.testBit k
    · simp
    · simp [Nat.pow_succ]
/-! lowest terms -/
theorem cop {q g : Nat} (hq : q = 2 ∨ q = 5) (h : ¬ q ∣ g) : Nat.Coprime g q := by
  have h1 : Nat.gcd g q ∣ q := Nat.gcd_dvd_right g q
  have h2 : Nat.gcd g q ∣ g := Nat.gcd_dvd_left g q
  have hle : Nat.gcd g q ≤ q := Nat.le_of_dvd (by omega) h1
  show Nat.gcd g q = 1
  generalize Nat.gcd g q = d at h1 h2 hle
  rcases hq with e | e <;> subst e
  · have hh : d = 0 ∨ d = 1 ∨ d = 2 := by omega
    rcases hh with e | e | e <;> subst e
    · exact absurd h1 (by decide)
    · rfl
    · exact absurd h2 h
  · have hh : d = 0 ∨ d = 1 ∨ d = 2 ∨ d = 3 ∨ d = 4 ∨ d = 5 := by omega
    rcases hh with e | e | e | e | e | e <;> subst e
    · exact absurd h1 (by decide)
    · rfl
    · exact absurd h1 (by decide)
    · exact absurd h1 (by decide)
    · exact absurd h1 (by decide)
    · exact absurd h2 h
/-- one round of halving and fifthing -/
def low1 (P O : Nat) : Nat × Nat :=
  let a := if P % 2 = 0 ∧ O % 2 = 0 then (P / 2, O / 2) else (P, O)
  if a.1 % 5 = 0 ∧ a.2 % 5 = 0 then (a.1 / 5, a.2 / 5) else a
theorem low1_spec {P O r : Nat} (h : Nat.gcd P O ∣ 10 ^ (r + 1)) : ∃ D, P = (low1 P O).1 * D ∧ O = (low1 P O).2 * D ∧ 0 < D ∧ Nat.gcd (low1 P O).1 (low1 P O).2 ∣ 10 ^ r := by
  -- halving
  have half : ∃ P1 O1 D1, (if P % 2 = 0 ∧ O % 2 = 0 then (P / 2, O / 2) else (P, O)) = (P1, O1) ∧ P = P1 * D1 ∧ O = O1 * D1 ∧ 0 < D1 ∧ Nat.gcd P1 O1 ∣ 5 * 10 ^ r := by
    by_cases h2 : P % 2 = 0 ∧ O % 2 = 0
    · refine ⟨P / 2, O / 2, 2, if_pos h2, by omega, by omega, by omega, ?_⟩
      have e : Nat.gcd P O = 2 * Nat.gcd (P / 2) (O / 2) := by
        rw [← Nat.gcd_mul_left]
        congr 1 <;> omega
      rw [e, show 10 ^ (r + 1) = 2 * (5 * 10 ^ r) by rw [Nat.pow_succ]; omega] at h
      exact Nat.dvd_of_mul_dvd_mul_left (by omega) h
    · refine ⟨P, O, 1, if_neg h2, by omega, by omega, by omega, ?_⟩
      have hnd : ¬ 2 ∣ Nat.gcd P O := by
        intro hd
        apply h2
        have a := Nat.dvd_trans hd (Nat.gcd_dvd_left P O)
        have b := Nat.dvd_trans hd (Nat.gcd_dvd_right P O)
        omega
      rw [show 10 ^ (r + 1) = 2 * (5 * 10 ^ r) by rw [Nat.pow_succ]; omega] at h
      exact (cop (Or.inl rfl) hnd).dvd_of_dvd_mul_left h
  obtain ⟨P1, O1, D1, e1, a1, a2, a3, a4⟩ := half
  have el : low1 P O = if P1 % 5 = 0 ∧ O1 % 5 = 0 then (P1 / 5, O1 / 5) else (P1, O1) := by
    unfold low1
    dsimp only
    rw [e1]
  rw [el]
  by_cases h5 : P1 % 5 = 0 ∧ O1 % 5 = 0
  · rw [if_pos h5]
    refine ⟨5 * D1, ?_, ?_, by omega, ?_⟩
    · show P = P1 / 5 * (5 * D1)
      rw [← Nat.mul_assoc, show P1 / 5 * 5 = P1 by omega]
      exact a1
    · show O = O1 / 5 * (5 * D1)
      rw [← Nat.mul_assoc, show O1 / 5 * 5 = O1 by omega]
      exact a2
    · show Nat.gcd (P1 / 5) (O1 / 5) ∣ 10 ^ r
      have e : Nat.gcd P1 O1 = 5 * Nat.gcd (P1 / 5) (O1 / 5) := by
        rw [← Nat.gcd_mul_left]
        congr 1 <;> omega
      rw [e] at a4
      exact Nat.dvd_of_mul_dvd_mul_left (by omega) a4
  · rw [if_neg h5]
    refine ⟨D1, a1, a2, a3, ?_⟩
    show Nat.gcd P1 O1 ∣ 10 ^ r
    have hnd : ¬ 5 ∣ Nat.gcd P1 O1 := by
      intro hd
      apply h5
      have a := Nat.dvd_trans hd (Nat.gcd_dvd_left P1 O1)
      have b := Nat.dvd_trans hd (Nat.gcd_dvd_right P1 O1)
      omega
    exact (cop (Or.inr rfl) hnd).dvd_of_dvd_mul_left a4
theorem low1_le (P O : Nat) : (low1 P O).1 ≤ P ∧ (low1 P O).2 ≤ O := by
  unfold low1
  dsimp only
  by_cases h2 : P % 2 = 0 ∧ O % 2 = 0
  · rw [if_pos h2]
    dsimp only
    split
    · dsimp only; omega
    · dsimp only; omega
  · rw [if_neg h2]
    dsimp only
    split
    · dsimp only; omega
    · dsimp only; omega
/-- the class's round -/
theorem s_low1 {P O : Nat} (hP : P < 2 ^ 31) (hO : O < 2 ^ 31) (n v : Nat) (hv : v < 8) : fl_X6_lowestPartOf_7 (n + 1) (nI P) (nI O) (nI v) = fl_X6_lowestPartOf_7 n (nI (low1 P O).1) (nI (low1 P O).2) (nI (v + 1)) := by
  have r2 : ∀ a, a < 2 ^ 31 → nI a - nI a / (2 : Int32) * (2 : Int32) = nI (a % 2) := fun a ha => pk_rem (d := 2) ha (by omega) (by omega)
  have r5 : ∀ a, a < 2 ^ 31 → nI a - nI a / (5 : Int32) * (5 : Int32) = nI (a % 5) := fun a ha => pk_rem (d := 5) ha (by omega) (by omega)
  have d2 : ∀ a, a < 2 ^ 31 → nI a / (2 : Int32) = nI (a / 2) := fun a ha => pk_div (d := 2) ha (by omega) (by omega)
  have d5 : ∀ a, a < 2 ^ 31 → nI a / (5 : Int32) = nI (a / 5) := fun a ha => pk_div (d := 5) ha (by omega) (by omega)
  have z : ∀ a, a < 2 ^ 31 → (nI a = 0 ↔ a = 0) := fun a ha => nI_eq (b := 0) ha (by omega)
  rw [fl_X6_lowestPartOf_7, if_neg (kb8 hv), nI_1]
  simp only [kn_se_eq]
  rw [r2 P hP, r2 O hO, r5 P hP, r5 O hO, d2 P hP, d2 O hO, d5 P hP, d5 O hO, r5 (P / 2) (by omega), r5 (O / 2) (by omega), d5 (P / 2) (by omega), d5 (O / 2) (by omega)]
  have zP2 := z (P % 2) (by omega)
  have zO2 := z (O % 2) (by omega)
  have zP5 := z (P % 5) (by omega)
  have zO5 := z (O % 5) (by omega)
  have zP25 := z (P / 2 % 5) (by omega)
  have zO25 := z (O / 2 % 5) (by omega)
  unfold low1
  dsimp only
  by_cases h1 : P % 2 = 0
  · rw [if_pos (zP2.mpr h1)]
    by_cases h2 : O % 2 = 0
    · rw [if_pos (zO2.mpr h2), if_pos (show P % 2 = 0 ∧ O % 2 = 0 from ⟨h1, h2⟩)]
      dsimp only
      by_cases h3 : P / 2 % 5 = 0
      · rw [if_pos (zP25.mpr h3)]
        by_cases h4 : O / 2 % 5 = 0
        · rw [if_pos (zO25.mpr h4), if_pos (show P / 2 % 5 = 0 ∧ O / 2 % 5 = 0 from ⟨h3, h4⟩)]
        · rw [if_neg (fun h => h4 (zO25.mp h)), if_neg (show ¬ (P / 2 % 5 = 0 ∧ O / 2 % 5 = 0) from fun h => h4 h.2)]
      · rw [if_neg (fun h => h3 (zP25.mp h)), if_neg (show ¬ (P / 2 % 5 = 0 ∧ O / 2 % 5 = 0) from fun h => h3 h.1)]
    · rw [if_neg (fun h => h2 (zO2.mp h)), if_neg (show ¬ (P % 2 = 0 ∧ O % 2 = 0) from fun h => h2 h.2)]
      dsimp only
      by_cases h3 : P % 5 = 0
      · rw [if_pos (zP5.mpr h3)]
        by_cases h4 : O % 5 = 0
        · rw [if_pos (zO5.mpr h4), if_pos (show P % 5 = 0 ∧ O % 5 = 0 from ⟨h3, h4⟩)]
        · rw [if_neg (fun h => h4 (zO5.mp h)), if_neg (show ¬ (P % 5 = 0 ∧ O % 5 = 0) from fun h => h4 h.2)]
      · rw [if_neg (fun h => h3 (zP5.mp h)), if_neg (show ¬ (P % 5 = 0 ∧ O % 5 = 0) from fun h => h3 h.1)]
  · rw [if_neg (fun h => h1 (zP2.mp h)), if_neg (show ¬ (P % 2 = 0 ∧ O % 2 = 0) from fun h => h1 h.1)]
    dsimp only
    by_cases h3 : P % 5 = 0
    · rw [if_pos (zP5.mpr h3)]
      by_cases h4 : O % 5 = 0
      · rw [if_pos (zO5.mpr h4), if_pos (show P % 5 = 0 ∧ O % 5 = 0 from ⟨h3, h4⟩)]
      · rw [if_neg (fun h => h4 (zO5.mp h)), if_neg (show ¬ (P % 5 = 0 ∧ O % 5 = 0) from fun h => h4 h.2)]
    · rw [if_neg (fun h => h3 (zP5.mp h)), if_neg (show ¬ (P % 5 = 0 ∧ O % 5 = 0) from fun h => h3 h.1)]
theorem s_lowest {P O : Nat} (hP : P < 2 ^ 31) (hO : O < 2 ^ 31) (hpos : 0 < Nat.gcd P O) (hg : Nat.gcd P O ∣ 10 ^ 8) : f_X6_lowestPartOf (nI P) (nI O) = some (nI (P / Nat.gcd P O)) := by
  have go : ∀ m fuel v a b D, v + m = 8 → m < fuel → P = a * D → O = b * D → 0 < D → a ≤ P → b ≤ O → Nat.gcd a b ∣ 10 ^ m → fl_X6_lowestPartOf_7 fuel (nI a) (nI b) (nI v) = some (nI (P / Nat.gcd P O)) := by
    intro m
    induction m with
    | zero =>
      intro fuel v a b D hv hfu hPa hOb hD _ _ hab
      obtain ⟨g, rfl⟩ : ∃ g, fuel = g + 1 := ⟨fuel - 1, by omega⟩
      have e : v = 8 := by omega
      subst e
      rw [fl_X6_lowestPartOf_7, if_pos (by decide)]
      have g1 : Nat.gcd a b = 1 := Nat.dvd_one.mp hab
      have g2 : Nat.gcd P O = D := by
        rw [hPa, hOb, Nat.gcd_mul_right, g1, Nat.one_mul]
      rw [g2, hPa, Nat.mul_div_cancel _ hD]
    | succ m ih =>
      intro fuel v a b D hv hfu hPa hOb hD haP hbO hab
      obtain ⟨g, rfl⟩ : ∃ g, fuel = g + 1 := ⟨fuel - 1, by omega⟩
      obtain ⟨D2, q1, q2, q3, q4⟩ := low1_spec hab
      obtain ⟨l1, l2⟩ := low1_le a b
      rw [s_low1 (by omega) (by omega) g v (by omega)]
      refine ih g (v + 1) (low1 a b).1 (low1 a b).2 (D2 * D) (by omega) (by omega) ?_ ?_ (Nat.mul_pos q3 hD) (by omega) (by omega) q4
      · rw [← Nat.mul_assoc, ← q1]; exact hPa
      · rw [← Nat.mul_assoc, ← q2]; exact hOb
  exact go 8 300 0 P O 1 (by omega) (by omega) (by omega) (by omega) (by omega) (by omega) (by omega) hg
theorem s_power (b : Nat) {j : Nat} (hj : j < 9) : f_X6_powerOf (nI b) (nI j) = some (nI (b ^ j)) := by
  obtain ⟨r, e, q⟩ := lp (fun m s v => fl_X6_powerOf_4 m (nI b) (nI j) s (nI v)) j (fun v s => s = nI (b ^ v)) (fun r => r = nI (b ^ j))
    (fun m s h => ⟨s, by
      show fl_X6_powerOf_4 (m + 1) (nI b) (nI j) s (nI j) = some s
      rw [fl_X6_powerOf_4, if_pos (Int32.le_refl _)], h⟩)
    (fun m s v hv h => by
      right
      subst h
      refine ⟨_, rfl, ?_⟩
      show fl_X6_powerOf_4 (m + 1) (nI b) (nI j) (nI (b ^ v)) (nI v) = fl_X6_powerOf_4 m (nI b) (nI j) (nI (b ^ v * b)) (nI (v + 1))
      rw [fl_X6_powerOf_4, if_neg (nI_ge hv (by omega)), nI_1, pk_mul])
    j 300 1 0 (by omega) (by omega) rfl
  rw [q] at e
  exact e
/-- the reference's fraction, exactly -/
theorem s_euc {u d : Nat} (hu : u < 2 ^ 31) (hd2 : d < 2 ^ 31) (what : Int32) : ∀ k fuel a b, 2 * k + 1 ≤ fuel → k ≤ 31 → 1 ≤ a → a < 2 ^ 31 → b < 2 ^ k → b < 2 ^ 31 → fl_X7_partOf_5 fuel (nI u) (nI d) what (nI a) (nI b) = some (nI ((if what = 0 then u else d) / Nat.gcd a b)) := by
  have stop : ∀ fuel a, 1 ≤ fuel → 1 ≤ a → a < 2 ^ 31 → fl_X7_partOf_5 fuel (nI u) (nI d) what (nI a) (nI 0) = some (nI ((if what = 0 then u else d) / Nat.gcd a 0)) := by
    intro fuel a hf ha ha2
    obtain ⟨g, rfl⟩ : ∃ g, fuel = g + 1 := ⟨fuel - 1, by omega⟩
    have hz : ¬ nI a = 0 := nI_ne0 (by omega) ha2
    rw [fl_X7_partOf_5, if_pos (by decide), if_neg hz, if_neg hz, Nat.gcd_zero_right]
    by_cases hw : what = 0
    · rw [if_pos hw, if_pos hw, pk_div hu (by omega) ha2]
    · rw [if_neg hw, if_neg hw, pk_div hd2 (by omega) ha2]
  intro k
  induction k with
  | zero =>
    intro fuel a b hf _ ha ha2 hb _
    have e : b = 0 := by
      have : (2 : Nat) ^ 0 = 1 := rfl
      omega
    subst e
    exact stop fuel a (by omega) ha ha2
  | succ k ih =>
    intro fuel a b hf hk ha ha2 hb hb2
    by_cases h0 : b = 0
    · subst h0
      exact stop fuel a (by omega) ha ha2
    obtain ⟨g, rfl⟩ : ∃ g, fuel = g + 1 := ⟨fuel - 1, by omega⟩
    have eg : Nat.gcd a b = Nat.gcd b (a % b) := by
      rw [Nat.gcd_comm a b, Nat.gcd_rec b a, Nat.gcd_comm]
    rw [fl_X7_partOf_5, if_neg (nI_nle (by omega) hb2), if_neg (nI_ne0 (by omega) hb2), pk_rem ha2 (by omega) hb2, eg]
    have hr : a % b < b := Nat.mod_lt _ (by omega)
    by_cases hr0 : a % b = 0
    · rw [hr0]
      exact stop g b (by omega) (by omega) hb2
    obtain ⟨g, rfl⟩ : ∃ g', g = g' + 1 := ⟨g - 1, by omega⟩
    have eg2 : Nat.gcd b (a % b) = Nat.gcd (a % b) (b % (a % b)) := by
      rw [Nat.gcd_comm b (a % b), Nat.gcd_rec (a % b) b, Nat.gcd_comm]
    rw [fl_X7_partOf_5, if_neg (nI_nle (by omega) (by omega)), if_neg (nI_ne0 (by omega) (by omega)), pk_rem hb2 (by omega) (by omega), eg2]
    have h1 : b % (a % b) < a % b := Nat.mod_lt _ (by omega)
    have h3 := Nat.div_add_mod b (a % b)
    have h4 : 1 ≤ b / (a % b) := Nat.div_pos (by omega) (by omega)
    have h5 : a % b ≤ a % b * (b / (a % b)) := Nat.le_mul_of_pos_right _ h4
    have p4 : 2 ^ (k + 1) = 2 ^ k * 2 := Nat.pow_succ ..
    exact ih g (a % b) (b % (a % b)) (by omega) (by omega) (by omega) (by omega) (by omega) (by omega)
theorem s_part {u d : Nat} (hu : u < 2 ^ 31) (hd : 1 ≤ d) (hd2 : d < 2 ^ 31) (what : Int32) : f_X7_partOf (nI u) (nI d) what = some (nI ((if what = 0 then u else d) / Nat.gcd u d)) := by
  unfold f_X7_partOf
  rw [fl_X7_partOf_5, if_neg (nI_nle (by omega) hd2), if_neg (nI_ne0 (by omega) hd2), pk_rem hu (by omega) hd2]
  have eg : Nat.gcd u d = Nat.gcd d (u % d) := by
    rw [Nat.gcd_comm u d, Nat.gcd_rec d u, Nat.gcd_comm]
  have hr : u % d < d := Nat.mod_lt _ (by omega)
  rw [eg]
  exact s_euc hu hd2 what 31 299 d (u % d) (by omega) (by omega) hd hd2 (by omega) (by omega)
/-- the odds of a set of rotten ones -/
def gw (x p : Nat) (e : Nat) (b : Bool) : Nat := if x.testBit e = true then (if b then p else 10 - p) else (if b then 0 else 1)
theorem gw_out {x p n s : Nat} (hx : x < 2 ^ n) (hs : s < 2 ^ n) (h : ¬ s &&& x = s) : prd (fun e => gw x p e (s.testBit e)) n = 0 := by
  have hex : ∃ j, s.testBit j = true ∧ x.testBit j = false := by
    by_cases hh : ∃ j, s.testBit j = true ∧ x.testBit j = false
    · exact hh
    · exfalso
      apply h
      refine sub_iff.mpr (fun j hj => ?_)
      cases hxj : x.testBit j
      · exact absurd ⟨j, hj, hxj⟩ hh
      · rfl
  obtain ⟨j, h1, h2⟩ := hex
  refine prd_zero (c := j) ?_ n ?_
  · show gw x p j (s.testBit j) = 0
    unfold gw
    rw [h2, h1, if_neg (by decide), if_pos rfl]
  · by_cases hj : j < n
    · exact hj
    · rw [tb_f hs (by omega)] at h1
      exact absurd h1 (by decide)
/-- all the odds where c comes undone -/
theorem gw_sum {x v c p n : Nat} (hn : n ≤ 8) (hx : x < 2 ^ n) (hp : p ≤ 10) (hcn : c < n) (hcx : x.testBit c = true) (hvx : ∀ j, v.testBit j = true → x.testBit j = true) (hcv : v.testBit c = false) (firm : Prop) [Decidable firm] :
    sm8 (fun s => if (s.testBit c = true ∨ (firm ∧ v &&& s = v)) then prd (fun e => gw x p e (s.testBit e)) n else 0) (2 ^ n) = p * 10 ^ pcn (sd x (2 ^ c)) 8 + (if firm then (10 - p) * p ^ pcn v 8 * 10 ^ pcn (sd (sd x v) (2 ^ c)) 8 else 0) := by
  have x8 : x < 256 := Nat.lt_of_lt_of_le hx (p8 hn)
  have v8 : v < 2 ^ n := Nat.lt_of_le_of_lt (sub_le hvx) hx
  have pn : ∀ y, y < 2 ^ n → pcn y 8 = pcn y n := by
    intro y hy
    have G : ∀ m, n + m ≤ 8 → pcn y (n + m) = pcn y n := by
      intro m
      induction m with
      | zero => intro _; rfl
      | succ m ih =>
        intro hm
        show pcn y (n + m) + (if y.testBit (n + m) then 1 else 0) = _
        rw [tb_f hy (by omega), if_neg (by decide), Nat.add_zero]
        exact ih (by omega)
    have h := G (8 - n) (by omega)
    rw [show n + (8 - n) = 8 by omega] at h
    exact h
  -- c itself is rotten
  have E1 : sm8 (fun s => if s.testBit c = true then prd (fun e => gw x p e (s.testBit e)) n else 0) (2 ^ n) = p * 10 ^ pcn (sd x (2 ^ c)) 8 := by
    have a := sum_prod (fun e b => if e = c then (if b then p else 0) else gw x p e b) n
    have b : sm8 (fun s => prd (fun e => if e = c then (if s.testBit e then p else 0) else gw x p e (s.testBit e)) n) (2 ^ n) = sm8 (fun s => if s.testBit c = true then prd (fun e => gw x p e (s.testBit e)) n else 0) (2 ^ n) := by
      refine sm8_ext _ (fun s hs => ?_)
      by_cases h : s.testBit c = true
      · rw [if_pos h]
        refine prd_ext n (fun e he => ?_)
        by_cases ec : e = c
        · subst ec
          unfold gw
          rw [if_pos rfl, h, if_pos rfl, hcx, if_pos rfl, if_pos rfl]
        · rw [if_neg ec]
      · rw [if_neg h]
        refine prd_zero (c := c) ?_ n hcn
        show (if c = c then (if s.testBit c then p else 0) else gw x p c (s.testBit c)) = 0
        rw [if_pos rfl, if_neg h]
    rw [← b]
    refine a.trans ?_
    have d := prd_val (x := x) (v := 0) (c := c) (A := p) (B := 1) (D := 10) hcx (fun j hj => by rw [Nat.zero_testBit] at hj; exact absurd hj (by decide)) (Nat.zero_testBit c) n hn
    have e1 : prd (fun e => (if e = c then (if false = true then p else 0) else gw x p e false) + (if e = c then (if true = true then p else 0) else gw x p e true)) n = prd (fun e => if x.testBit e = true then (if e = c then p else (if Nat.testBit 0 e = true then 1 else 10)) else 1) n := by
      refine prd_ext n (fun e he => ?_)
      by_cases ec : e = c
      · subst ec
        simp [hcx]
      · rw [if_neg ec, if_neg ec, if_neg ec, Nat.zero_testBit]
        unfold gw
        cases hxe : x.testBit e
        · rfl
        · show (10 - p) + p = 10
          omega
    refine e1.trans (d.trans ?_)
    have hs0 : sd (sd x 0) (2 ^ c) = sd x (2 ^ c) := by
      have : sd x 0 = x := by
        apply Nat.eq_of_testBit_eq
        intro j
        by_cases hj : j < 8
        · rw [sd_tb hj, Nat.zero_testBit, Bool.not_false, Bool.and_true]
        · rw [tb_f (n := 8) (sd_lt x8) (by omega), tb_f (n := 8) x8 (by omega)]
      rw [this]
    rw [if_pos hcn, Nat.one_pow, Nat.mul_one, hs0, pn _ (sd_lt hx)]
  by_cases hf : firm
  · rw [if_pos hf]
    have E2 : sm8 (fun s => if (s.testBit c = false ∧ v &&& s = v) then prd (fun e => gw x p e (s.testBit e)) n else 0) (2 ^ n) = (10 - p) * p ^ pcn v 8 * 10 ^ pcn (sd (sd x v) (2 ^ c)) 8 := by
      have a := sum_prod (fun e b => if e = c then (if b then 0 else 10 - p) else (if v.testBit e = true then (if b then p else 0) else gw x p e b)) n
      have b : sm8 (fun s => prd (fun e => if e = c then (if s.testBit e then 0 else 10 - p) else (if v.testBit e = true then (if s.testBit e then p else 0) else gw x p e (s.testBit e))) n) (2 ^ n) = sm8 (fun s => if (s.testBit c = false ∧ v &&& s = v) then prd (fun e => gw x p e (s.testBit e)) n else 0) (2 ^ n) := by
        refine sm8_ext _ (fun s hs => ?_)
        by_cases h : s.testBit c = false ∧ v &&& s = v
        · rw [if_pos h]
          refine prd_ext n (fun e he => ?_)
          by_cases ec : e = c
          · subst ec
            unfold gw
            rw [if_pos rfl, h.1, if_neg (by decide), hcx, if_pos rfl, if_neg (by decide)]
          · rw [if_neg ec]
            by_cases hve : v.testBit e = true
            · have hse := sub_iff.mp h.2 e hve
              unfold gw
              rw [if_pos hve, hse, if_pos rfl, hvx e hve, if_pos rfl, if_pos rfl]
            · rw [if_neg hve]
        · rw [if_neg h]
          by_cases h1 : s.testBit c = true
          · refine prd_zero (c := c) ?_ n hcn
            show (if c = c then (if s.testBit c then 0 else 10 - p) else _) = 0
            rw [if_pos rfl, if_pos h1]
          · have h1' : s.testBit c = false := by
              cases hh : s.testBit c
              · rfl
              · exact absurd hh h1
            have hex : ∃ j, v.testBit j = true ∧ s.testBit j = false := by
              by_cases hh : ∃ j, v.testBit j = true ∧ s.testBit j = false
              · exact hh
              · exfalso
                apply h
                refine ⟨h1', sub_iff.mpr (fun j hj => ?_)⟩
                cases hsj : s.testBit j
                · exact absurd ⟨j, hj, hsj⟩ hh
                · rfl
            obtain ⟨j, hj1, hj2⟩ := hex
            have hjn : j < n := by
              by_cases hh : j < n
              · exact hh
              · rw [tb_f v8 (by omega)] at hj1
                exact absurd hj1 (by decide)
            have hjc : j ≠ c := by
              intro e
              subst e
              rw [hcv] at hj1
              exact absurd hj1 (by decide)
            refine prd_zero (c := j) ?_ n hjn
            show (if j = c then _ else (if v.testBit j = true then (if s.testBit j then p else 0) else _)) = 0
            rw [if_neg hjc, if_pos hj1, hj2, if_neg (by decide)]
      rw [← b]
      refine a.trans ?_
      have d := prd_val (x := x) (v := v) (c := c) (A := 10 - p) (B := p) (D := 10) hcx hvx hcv n hn
      have e1 : prd (fun e => (if e = c then (if false = true then 0 else 10 - p) else (if v.testBit e = true then (if false = true then p else 0) else gw x p e false)) + (if e = c then (if true = true then 0 else 10 - p) else (if v.testBit e = true then (if true = true then p else 0) else gw x p e true))) n = prd (fun e => if x.testBit e = true then (if e = c then 10 - p else (if v.testBit e = true then p else 10)) else 1) n := by
        refine prd_ext n (fun e he => ?_)
        by_cases ec : e = c
        · subst ec
          simp [hcx]
        · rw [if_neg ec, if_neg ec, if_neg ec]
          by_cases hve : v.testBit e = true
          · rw [if_pos hve, if_pos hve, if_pos hve, if_pos (hvx e hve), if_neg (by decide), if_pos rfl, Nat.zero_add]
          · rw [if_neg hve, if_neg hve, if_neg hve]
            unfold gw
            cases hxe : x.testBit e
            · rfl
            · show (10 - p) + p = 10
              omega
      refine e1.trans (d.trans ?_)
      rw [if_pos hcn, pn v v8, pn _ (sd_lt (sd_lt hx))]
    rw [← E1, ← E2, ← sm8_add]
    refine sm8_ext _ (fun s hs => ?_)
    cases hsc : s.testBit c
    · by_cases hv' : v &&& s = v
      · rw [if_pos (Or.inr ⟨hf, hv'⟩), if_neg (by decide), if_pos ⟨rfl, hv'⟩, Nat.zero_add]
      · rw [if_neg (fun h => h.elim (fun h => absurd h (by decide)) (fun h => hv' h.2)), if_neg (by decide), if_neg (fun h => hv' h.2)]
    · rw [if_pos (Or.inl rfl), if_pos rfl, if_neg (fun h => absurd h.1 (by decide)), Nat.add_zero]
  · rw [if_neg hf, Nat.add_zero, ← E1]
    refine sm8_ext _ (fun s hs => ?_)
    cases hsc : s.testBit c
    · rw [if_neg (fun h => h.elim (fun h => absurd h (by decide)) (fun h => hf h.1)), if_neg (by decide)]
    · rw [if_pos (Or.inl rfl), if_pos rfl]
