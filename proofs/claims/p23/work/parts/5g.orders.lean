/-! 5g: orders answers alike -/
def sm8 (f : Nat → Nat) : Nat → Nat
  | 0 => 0
  | k + 1 => sm8 f k + f k
theorem sm8_ext {f g : Nat → Nat} : ∀ k, (∀ c, c < k → f c = g c) → sm8 f k = sm8 g k
  | 0, _ => rfl
  | k + 1, h => by
    show sm8 f k + f k = sm8 g k + g k
    rw [sm8_ext k (fun c hc => h c (by omega)), h k (by omega)]
theorem sm8_add (f g : Nat → Nat) : ∀ k, sm8 (fun c => f c + g c) k = sm8 f k + sm8 g k
  | 0 => rfl
  | k + 1 => by
    show sm8 (fun c => f c + g c) k + (f k + g k) = sm8 f k + f k + (sm8 g k + g k)
    rw [sm8_add f g k]
    omega
theorem sm8_zero : ∀ k, sm8 (fun _ => 0) k = 0
  | 0 => rfl
  | k + 1 => by
    show sm8 (fun _ => 0) k + 0 = 0
    rw [sm8_zero k]
theorem sm8_swap (F : Nat → Nat → Nat) (m : Nat) : ∀ k, sm8 (fun c => sm8 (F c) m) k = sm8 (fun d => sm8 (fun c => F c d) k) m
  | 0 => (sm8_zero m).symm
  | k + 1 => by
    show sm8 (fun c => sm8 (F c) m) k + sm8 (F k) m = sm8 (fun d => sm8 (fun c => F c d) k + F k d) m
    rw [sm8_swap F m k, sm8_add]
theorem sm8_le {f : Nat → Nat} {B : Nat} : ∀ k, (∀ c, c < k → f c ≤ B) → sm8 f k ≤ k * B
  | 0, _ => Nat.zero_le _
  | k + 1, h => by
    show sm8 f k + f k ≤ (k + 1) * B
    have h1 := sm8_le k (fun c hc => h c (by omega))
    have h2 := h k (by omega)
    rw [Nat.succ_mul]
    omega
theorem sm8_if (p : Prop) [Decidable p] (f : Nat → Nat) (k : Nat) : (if p then sm8 f k else 0) = sm8 (fun c => if p then f c else 0) k := by
  by_cases h : p
  · rw [if_pos h]
    exact sm8_ext k (fun c _ => (if_pos h).symm)
  · rw [if_neg h]
    exact (sm8_zero k).symm.trans (sm8_ext k (fun c _ => (if_neg h).symm))
/-- in how many ways the done ones A grow to B, one by one, each behind what bars it -/
def NN (v : Nat → Nat) : Nat → Nat → Nat → Nat
  | 0, _, _ => 1
  | k + 1, A, B => sm8 (fun c => if (B.testBit c = true ∧ A.testBit c = false ∧ v c &&& B = v c) then NN v k A (sd B (2 ^ c)) else 0) 8
theorem sub_iff {a b : Nat} : a &&& b = a ↔ ∀ j, a.testBit j = true → b.testBit j = true := by
  constructor
  · intro h j hj
    rw [← h, Nat.testBit_and, Bool.and_eq_true] at hj
    exact hj.2
  · intro h
    apply Nat.eq_of_testBit_eq
    intro j
    rw [Nat.testBit_and]
    cases ha : a.testBit j
    · rfl
    · rw [h j ha]; rfl
theorem pc_or : ∀ a, a < 256 → ∀ c, c < 8 → a.testBit c = false → pcn (a ||| 2 ^ c) 8 = pcn a 8 + 1 := by decide +kernel
theorem or2_tb {a c j : Nat} : (a ||| 2 ^ c).testBit j = true ↔ (a.testBit j = true ∨ c = j) := by
  rw [Nat.testBit_or, Bool.or_eq_true, two_tb]
theorem sd2_tb {a c j : Nat} (ha : a < 256) : (sd a (2 ^ c)).testBit j = true ↔ (a.testBit j = true ∧ c ≠ j) := by
  by_cases hj : j < 8
  · rw [sd_tb hj, Bool.and_eq_true, Bool.not_eq_true', Nat.testBit_two_pow, decide_eq_false_iff_not]
  · rw [tb_f (n := 8) (sd_lt ha) (by omega)]
    constructor
    · intro h; exact absurd h (by decide)
    · rintro ⟨h, -⟩
      rw [tb_f (n := 8) ha (by omega)] at h
      exact absurd h (by decide)
theorem tb8 {a j : Nat} (ha : a < 256) (h : a.testBit j = true) : j < 8 := by
  by_cases hj : j < 8
  · exact hj
  · rw [tb_f (n := 8) ha (by omega)] at h
    exact absurd h (by decide)
theorem not_t {b : Bool} : b = false ↔ ¬ b = true := by cases b <;> simp
theorem NN_first {v : Nat → Nat} (hv : ∀ c, c < 8 → (v c).testBit c = false) : ∀ k A B, A < 256 → B < 256 → (∀ j, A.testBit j = true → B.testBit j = true) → pcn B 8 = pcn A 8 + (k + 1) → NN v (k + 1) A B = sm8 (fun d => if (B.testBit d = true ∧ A.testBit d = false ∧ v d &&& A = v d) then NN v k (A ||| 2 ^ d) B else 0) 8 := by
  intro k
  induction k with
  | zero =>
    intro A B hA hB hAB hpc
    refine sm8_ext 8 (fun c hc => ?_)
    show (if (B.testBit c = true ∧ A.testBit c = false ∧ v c &&& B = v c) then 1 else 0) = (if (B.testBit c = true ∧ A.testBit c = false ∧ v c &&& A = v c) then 1 else 0)
    have key : (B.testBit c = true ∧ A.testBit c = false ∧ v c &&& B = v c) ↔ (B.testBit c = true ∧ A.testBit c = false ∧ v c &&& A = v c) := by
      constructor
      · rintro ⟨h1, h2, h3⟩
        refine ⟨h1, h2, sub_iff.mpr (fun j hj => ?_)⟩
        rw [sub_iff] at h3
        cases hAj : A.testBit j
        · exfalso
          have hjB := h3 j hj
          have hj8 := tb8 hB hjB
          have hjc : j ≠ c := by
            intro e
            subst e
            rw [hv j hc] at hj
            exact absurd hj (by decide)
          have hAc8 : A ||| 2 ^ c < 256 := Nat.or_lt_two_pow (n := 8) hA (Nat.pow_lt_pow_right (by omega) hc)
          have p1 := pc_or A hA c hc h2
          have h4 : (A ||| 2 ^ c).testBit j = false := by
            rw [not_t, or2_tb]
            rintro (h | h)
            · rw [hAj] at h; exact absurd h (by decide)
            · exact hjc h.symm
          have p2 := pc_or (A ||| 2 ^ c) hAc8 j hj8 h4
          have p3 := pcn_mono (a := A ||| 2 ^ c ||| 2 ^ j) (b := B) (fun i hi => by
            rw [or2_tb, or2_tb] at hi
            rcases hi with (hi | hi) | hi
            · exact hAB i hi
            · subst hi; exact h1
            · subst hi; exact hjB) 8
          omega
        · rfl
      · rintro ⟨h1, h2, h3⟩
        exact ⟨h1, h2, sub_iff.mpr (fun j hj => hAB j (sub_iff.mp h3 j hj))⟩
    by_cases h : B.testBit c = true ∧ A.testBit c = false ∧ v c &&& B = v c
    · rw [if_pos h, if_pos (key.mp h)]
    · rw [if_neg h, if_neg (fun h' => h (key.mpr h'))]
  | succ k ih =>
    intro A B hA hB hAB hpc
    have step : NN v (k + 1 + 1) A B = sm8 (fun c => sm8 (fun d => if (B.testBit c = true ∧ A.testBit c = false ∧ v c &&& B = v c) then (if ((sd B (2 ^ c)).testBit d = true ∧ A.testBit d = false ∧ v d &&& A = v d) then NN v k (A ||| 2 ^ d) (sd B (2 ^ c)) else 0) else 0) 8) 8 := by
      refine sm8_ext 8 (fun c hc => ?_)
      show (if (B.testBit c = true ∧ A.testBit c = false ∧ v c &&& B = v c) then NN v (k + 1) A (sd B (2 ^ c)) else 0) = _
      rw [← sm8_if]
      by_cases h : B.testBit c = true ∧ A.testBit c = false ∧ v c &&& B = v c
      · rw [if_pos h, if_pos h]
        have p1 := pc_sd B hB c hc h.1
        refine ih A (sd B (2 ^ c)) hA (sd_lt hB) (fun j hj => ?_) (by omega)
        rw [sd2_tb hB]
        refine ⟨hAB j hj, fun e => ?_⟩
        subst e
        rw [h.2.1] at hj
        exact absurd hj (by decide)
      · rw [if_neg h, if_neg h]
    rw [step, sm8_swap]
    refine sm8_ext 8 (fun d hd' => ?_)
    show _ = (if (B.testBit d = true ∧ A.testBit d = false ∧ v d &&& A = v d) then sm8 (fun c => if (B.testBit c = true ∧ (A ||| 2 ^ d).testBit c = false ∧ v c &&& B = v c) then NN v k (A ||| 2 ^ d) (sd B (2 ^ c)) else 0) 8 else 0)
    rw [sm8_if]
    refine sm8_ext 8 (fun c hc => ?_)
    have key : ((B.testBit c = true ∧ A.testBit c = false ∧ v c &&& B = v c) ∧ ((sd B (2 ^ c)).testBit d = true ∧ A.testBit d = false ∧ v d &&& A = v d)) ↔ ((B.testBit d = true ∧ A.testBit d = false ∧ v d &&& A = v d) ∧ (B.testBit c = true ∧ (A ||| 2 ^ d).testBit c = false ∧ v c &&& B = v c)) := by
      rw [sd2_tb hB, not_t (b := (A ||| 2 ^ d).testBit c), or2_tb, not_t (b := A.testBit c), not_t (b := A.testBit d)]
      constructor
      · rintro ⟨⟨h1, h2, h3⟩, ⟨h4, h5⟩, h6, h7⟩
        exact ⟨⟨h4, h6, h7⟩, h1, fun h => h.elim h2 (fun e => h5 e.symm), h3⟩
      · rintro ⟨⟨h4, h6, h7⟩, h1, h2, h3⟩
        exact ⟨⟨h1, fun h => h2 (Or.inl h), h3⟩, ⟨h4, fun e => h2 (Or.inr e.symm)⟩, h6, h7⟩
    by_cases h1 : (B.testBit c = true ∧ A.testBit c = false ∧ v c &&& B = v c) ∧ ((sd B (2 ^ c)).testBit d = true ∧ A.testBit d = false ∧ v d &&& A = v d)
    · have h2 := key.mp h1
      rw [if_pos h1.1, if_pos h1.2, if_pos h2.1, if_pos h2.2]
    · have h2 : ¬ ((B.testBit d = true ∧ A.testBit d = false ∧ v d &&& A = v d) ∧ (B.testBit c = true ∧ (A ||| 2 ^ d).testBit c = false ∧ v c &&& B = v c)) := fun h => h1 (key.mpr h)
      have l : (if (B.testBit c = true ∧ A.testBit c = false ∧ v c &&& B = v c) then (if ((sd B (2 ^ c)).testBit d = true ∧ A.testBit d = false ∧ v d &&& A = v d) then NN v k (A ||| 2 ^ d) (sd B (2 ^ c)) else 0) else 0) = 0 := by
        by_cases ha : B.testBit c = true ∧ A.testBit c = false ∧ v c &&& B = v c
        · rw [if_pos ha, if_neg (fun hb => h1 ⟨ha, hb⟩)]
        · rw [if_neg ha]
      have r : (if (B.testBit d = true ∧ A.testBit d = false ∧ v d &&& A = v d) then (if (B.testBit c = true ∧ (A ||| 2 ^ d).testBit c = false ∧ v c &&& B = v c) then NN v k (A ||| 2 ^ d) (sd B (2 ^ c)) else 0) else 0) = 0 := by
        by_cases ha : B.testBit d = true ∧ A.testBit d = false ∧ v d &&& A = v d
        · rw [if_pos ha, if_neg (fun hb => h2 ⟨ha, hb⟩)]
        · rw [if_neg ha]
      rw [l, r]
theorem sd0_iff {a b : Nat} (ha : a < 256) : sd a b = 0 ↔ a &&& b = a := by
  rw [sub_iff]
  constructor
  · intro h j hj
    have hj8 := tb8 ha hj
    have h1 : (sd a b).testBit j = false := by rw [h, Nat.zero_testBit]
    rw [sd_tb hj8, hj, Bool.true_and, Bool.not_eq_false'] at h1
    exact h1
  · intro h
    apply Nat.eq_of_testBit_eq
    intro j
    rw [Nat.zero_testBit]
    by_cases hj8 : j < 8
    · rw [sd_tb hj8]
      cases ha' : a.testBit j
      · rfl
      · rw [h j ha']; rfl
    · exact tb_f (n := 8) (sd_lt ha) (by omega)
theorem nI0 {a : Nat} (ha : a < 256) : nI a = 0 ↔ a = 0 := nI_eq (b := 0) (by omega) (by omega)
theorem s_fillB (bd fb : Nat → Int32) (t : Int32) : ∃ r, f_X1_fillBars bd t fb = some r ∧ ∀ c, c < 8 → r c = bd c &&& t :=
  lp (fun m s v => fl_X1_fillBars_2 m bd t s (nI v)) 8 (fun v s => ∀ c, c < v → s c = bd c &&& t) _
    (fun m s h => ⟨s, by
      show fl_X1_fillBars_2 (m + 1) bd t s (nI 8) = some s
      rw [fl_X1_fillBars_2, if_pos (by decide)], h⟩)
    (fun m s v hv h => Or.inr ⟨upd s v (bd v &&& t), by
      intro c hc
      by_cases e : c = v
      · subst e; exact upd_eq
      · rw [upd_ne e]; exact h c (by omega), by
      show fl_X1_fillBars_2 (m + 1) bd t s (nI v) = fl_X1_fillBars_2 m bd t _ (nI (v + 1))
      have ix : ¬ (nI v < 0 ∨ 8 ≤ (nI v).toNatClampNeg) := nI_in hv (by decide)
      rw [fl_X1_fillBars_2, if_neg (kb8 hv), if_neg ix, if_neg ix, nI_clamp (by omega), nI_1]⟩)
    8 300 fb 0 (by omega) (by omega) (fun c hc => absurd hc (by omega))
theorem s_waysTo {fb fw : Nat → Int32} {v W : Nat → Nat} {s : Nat} (hs : s < 256) (hb : ∀ c, c < 8 → s.testBit c = true → fb c = nI (v c) ∧ v c < 256) (hw : ∀ c, c < 8 → s.testBit c = true → fw (sd s (2 ^ c)) = nI (W (sd s (2 ^ c)))) : f_X1_waysTo fb fw (nI s) = some (nI (sm8 (fun c => if (s.testBit c = true ∧ v c &&& s = v c) then W (sd s (2 ^ c)) else 0) 8)) := by
  obtain ⟨r, e, q⟩ := lp (fun m a u => fl_X1_waysTo_4 m fb fw (nI s) a (nI u)) 8 (fun u a => a = nI (sm8 (fun c => if (s.testBit c = true ∧ v c &&& s = v c) then W (sd s (2 ^ c)) else 0) u)) (fun r => r = nI (sm8 (fun c => if (s.testBit c = true ∧ v c &&& s = v c) then W (sd s (2 ^ c)) else 0) 8))
    (fun m a h => ⟨a, by
      show fl_X1_waysTo_4 (m + 1) fb fw (nI s) a (nI 8) = some a
      rw [fl_X1_waysTo_4, if_pos (by decide)], h⟩)
    (fun m a u hu h => by
      right
      subst h
      refine ⟨_, rfl, ?_⟩
      show fl_X1_waysTo_4 (m + 1) fb fw (nI s) (nI (sm8 (fun c => if (s.testBit c = true ∧ v c &&& s = v c) then W (sd s (2 ^ c)) else 0) u)) (nI u) = fl_X1_waysTo_4 m fb fw (nI s) (nI (sm8 (fun c => if (s.testBit c = true ∧ v c &&& s = v c) then W (sd s (2 ^ c)) else 0) u + (if (s.testBit u = true ∧ v u &&& s = v u) then W (sd s (2 ^ u)) else 0))) (nI (u + 1))
      rw [fl_X1_waysTo_4, if_neg (kb8 hu)]
      cases ht : s.testBit u
      · rw [if_pos (h6f hs hu ht), if_neg (fun h => absurd h.1 (by decide)), Nat.add_zero, nI_1]
      · have hl : sd s (2 ^ u) < 256 := sd_lt hs
        obtain ⟨hb1, hb2⟩ := hb u hu ht
        have hz := nI0 (a := sd (v u) s) (sd_lt hb2)
        rw [if_neg (h6t hs hu ht), if_neg (nI_in hu (by decide)), nI_clamp (n := u) (by omega), hb1, kb_dif (v u) hb2 s hs, sd2 hs hu, if_neg (nI_in hl (by decide)), nI_clamp (by omega), hw u hu ht, nI_add, nI_1]
        by_cases hc : v u &&& s = v u
        · rw [if_pos (hz.mpr ((sd0_iff hb2).mpr hc)), if_pos ⟨rfl, hc⟩]
        · rw [if_neg (fun h => hc ((sd0_iff hb2).mp (hz.mp h))), if_neg (fun h => hc h.2)]
          rfl)
    8 300 0 0 (by omega) (by omega) rfl
  rw [q] at e
  exact e
theorem vb_out {n : Nat} {kd hd bd pt : Nat → Int32} (hC : KC n kd hd bd pt) {x : Nat} (hx : x < 2 ^ n) {c : Nat} (hc : x.testBit c = true) : c < n := by
  by_cases h : c < n
  · exact h
  · rw [tb_f hx (by omega)] at hc
    exact absurd hc (by decide)
/-- bars among the tied, nothing for those beyond -/
noncomputable def vv (bd : Nat → Int32) (x n c : Nat) : Nat := if c < n then vb bd x c else 0
theorem s_countO {n : Nat} {kd hd bd pt : Nat → Int32} (hC : KC n kd hd bd pt) {x : Nat} (hx : x < 2 ^ n) (fb fw : Nat → Int32) : ∃ r, f_X1_countOrders bd (nI x) fb fw = some r ∧ r.1 = nI (NN (vv bd x n) (pcn x 8) 0 x) := by
  have hn := hC.1
  have hx8 : x < 256 := Nat.lt_of_lt_of_le hx (p8 hn)
  obtain ⟨r1, e1, q1⟩ := s_fillB bd fb (nI x)
  have hbars : ∀ c, c < 8 → x.testBit c = true → r1 c = nI (vv bd x n c) ∧ vv bd x n c < 256 := by
    intro c hc hxc
    have hcn := vb_out hC hx hxc
    obtain ⟨a1, a2, -⟩ := vb_eq hC hx hcn
    unfold vv
    rw [if_pos hcn, q1 c hc, a1]
    exact ⟨rfl, Nat.lt_of_lt_of_le a2 (p8 hn)⟩
  have e : nI x &&& (255 : Int32) = nI x := by
    have h := pk_andN (n := x) (m := (255 : Int32)) (by omega) 8 (by decide)
    rw [h, Nat.mod_eq_of_lt (by omega)]
  have cw : ∃ r, f_X1_countWays r1 fw (nI x) = some r ∧ r.1 = nI (NN (vv bd x n) (pcn x 8) 0 x) := by
    unfold f_X1_countWays
    rw [e]
    refine lp (fun m s v => fl_X1_countWays_19 m r1 s (nI x) (nI v)) (x + 1) (fun v s => 1 ≤ v ∧ ∀ u, u < v → sd u x = 0 → s u = nI (NN (vv bd x n) (pcn u 8) 0 u)) _ ?_ ?_ x 300 (upd fw 0 (1 : Int32)) 1 (by omega) (by omega) ⟨by omega, fun u hu _ => ?_⟩
    · intro m s ⟨_, h⟩
      refine ⟨(s x, s), ?_, h x (by omega) (sd_self hx8)⟩
      show fl_X1_countWays_19 (m + 1) r1 s (nI x) (nI (x + 1)) = some (s x, s)
      rw [fl_X1_countWays_19, if_pos (nI_lt (by omega) (by omega)), if_neg (nI_in hx8 (by decide)), nI_clamp (by omega)]
    · intro m s v hv ⟨hv1, h⟩
      right
      show ∃ s', (1 ≤ v + 1 ∧ ∀ u, u < v + 1 → sd u x = 0 → s' u = nI (NN (vv bd x n) (pcn u 8) 0 u)) ∧ fl_X1_countWays_19 (m + 1) r1 s (nI x) (nI v) = fl_X1_countWays_19 m r1 s' (nI x) (nI (v + 1))
      have hv8 : v < 256 := by omega
      have hz := nI0 (a := sd v x) (sd_lt hv8)
      rw [fl_X1_countWays_19, if_neg (nI_nlt (by omega) (by omega)), kb_dif v hv8 x hx8, nI_1]
      by_cases hsub : sd v x = 0
      · have hsx := sub_iff.mp ((sd0_iff hv8).mp hsub)
        have ew := s_waysTo (fb := r1) (fw := s) (v := vv bd x n) (W := fun u => NN (vv bd x n) (pcn u 8) 0 u) hv8 (fun c hc hb => hbars c hc (hsx c hb)) (fun c hc hb => h _ (sd_bit_lt hb hc hv8) (sd_sub hsub))
        rw [if_pos (hz.mpr hsub), ew]
        dsimp only
        rw [if_neg (nI_in hv8 (by decide)), nI_clamp (by omega)]
        refine ⟨_, ⟨by omega, fun u hu hux => ?_⟩, rfl⟩
        by_cases eu : u = v
        · subst eu
          rw [upd_eq]
          congr 1
          obtain ⟨q, hq⟩ : ∃ q, pcn u 8 = q + 1 := by
            obtain ⟨c, hcb⟩ := Nat.exists_testBit_of_ne_zero (show u ≠ 0 by omega)
            have := pc_sd u hv8 c (tb8 hv8 hcb) hcb
            exact ⟨pcn u 8 - 1, by omega⟩
          rw [hq]
          show _ = sm8 (fun c => if (u.testBit c = true ∧ Nat.testBit 0 c = false ∧ vv bd x n c &&& u = vv bd x n c) then NN (vv bd x n) q 0 (sd u (2 ^ c)) else 0) 8
          refine sm8_ext 8 (fun c hc => ?_)
          by_cases hcond : u.testBit c = true ∧ vv bd x n c &&& u = vv bd x n c
          · rw [if_pos hcond, if_pos ⟨hcond.1, Nat.zero_testBit c, hcond.2⟩]
            have := pc_sd u hv8 c hc hcond.1
            rw [show pcn (sd u (2 ^ c)) 8 = q by omega]
          · rw [if_neg hcond, if_neg (fun hh => hcond ⟨hh.1, hh.2.2⟩)]
        · rw [upd_ne eu]
          exact h u (by omega) hux
      · rw [if_neg (fun hh => hsub (hz.mp hh))]
        refine ⟨s, ⟨by omega, fun u hu hux => ?_⟩, rfl⟩
        by_cases eu : u = v
        · subst eu; exact absurd hux hsub
        · exact h u (by omega) hux
    · have e0 : u = 0 := by omega
      subst e0
      rfl
  obtain ⟨r2, e2, q2⟩ := cw
  unfold f_X1_countOrders
  rw [e1]
  dsimp only
  rw [e2]
  exact ⟨_, rfl, q2⟩
theorem pc_split : ∀ x, x < 256 → ∀ s, s < 256 → sd s x = 0 → pcn x 8 = pcn (sd x s) 8 + pcn s 8 := by
  intro x hx s hs h
  have hsub := sub_iff.mp ((sd0_iff hs).mp h)
  have H : ∀ k, k ≤ 8 → pcn x k = pcn (sd x s) k + pcn s k := by
    intro k
    induction k with
    | zero => intro _; rfl
    | succ k ih =>
      intro hk
      show pcn x k + (if x.testBit k then 1 else 0) = (pcn (sd x s) k + (if (sd x s).testBit k then 1 else 0)) + (pcn s k + (if s.testBit k then 1 else 0))
      rw [ih (by omega), sd_tb (by omega)]
      cases hsk : s.testBit k
      · cases hxk : x.testBit k
        · simp
        · simp; omega
      · rw [hsub k hsk]
        simp; omega
  exact H 8 (by omega)
theorem s_lay7 {n : Nat} {kd hd bd pt w : Nat → Int32} (hC : KC n kd hd bd pt) (hW : KW n kd hd bd pt w) {x : Nat} (hx : x < 2 ^ n) (h2 : w 2 = nI x) (ways : Nat → Int32) : ∃ r, f_X7_layWays w ways (-1 : Int32) (0 : Int32) = some r ∧ r x = nI (NN (vv bd x n) (pcn x 8) 0 x) := by
  have hn := hC.1
  have hx8 : x < 256 := Nat.lt_of_lt_of_le hx (p8 hn)
  have hv0 : ∀ c, c < 8 → (vv bd x n c).testBit c = false := by
    intro c hc
    unfold vv
    by_cases hcn : c < n
    · rw [if_pos hcn]
      exact tb_f (vb_eq hC hx hcn).2.2 (Nat.le_refl c)
    · rw [if_neg hcn, Nat.zero_testBit]
  have outer : ∀ m fuel s (ws : Nat → Int32), s + m = x + 1 → 1 ≤ s → m < fuel → (∀ u, u < s → sd u x = 0 → ws u = nI (NN (vv bd x n) (pcn u 8) (sd x u) x)) → ∃ r, fl_X7_layWays_9 fuel w ws (-1 : Int32) (0 : Int32) (nI s) = some r ∧ r x = nI (NN (vv bd x n) (pcn x 8) (sd x x) x) := by
    intro m
    induction m with
    | zero =>
      intro fuel s ws hs hs1 hfu hL
      obtain ⟨g, rfl⟩ : ∃ g, fuel = g + 1 := ⟨fuel - 1, by omega⟩
      have e : s = x + 1 := by omega
      subst e
      rw [fl_X7_layWays_9, h2, if_pos (nI_lt (by omega) (by omega))]
      exact ⟨_, rfl, hL x (by omega) (sd_self hx8)⟩
    | succ m ih =>
      intro fuel s ws hs hs1 hfu hL
      obtain ⟨g, rfl⟩ : ∃ g, fuel = g + 1 := ⟨fuel - 1, by omega⟩
      have hs8 : s < 256 := by omega
      have ix : ¬ (nI s < 0 ∨ 256 ≤ (nI s).toNatClampNeg) := nI_in hs8 (by decide)
      have cl : (nI s).toNatClampNeg = s := nI_clamp (by omega)
      have ih' : ∀ (ws : Nat → Int32), (∀ u, u < s + 1 → sd u x = 0 → ws u = nI (NN (vv bd x n) (pcn u 8) (sd x u) x)) → ∃ r, fl_X7_layWays_9 g w ws (-1 : Int32) (0 : Int32) (nI s + 1) = some r ∧ r x = nI (NN (vv bd x n) (pcn x 8) (sd x x) x) := by
        intro ws hL
        rw [nI_1]
        exact ih g (s + 1) ws (by omega) (by omega) (by omega) hL
      rw [fl_X7_layWays_9, h2, if_neg (nI_nlt (by omega) (by omega)), if_neg ix, kb_dif s hs8 x hx8, cl]
      by_cases hsub : sd s x = 0
      · rw [if_pos (show nI (sd s x) = 0 by rw [hsub]; rfl)]
        have hsx := sub_iff.mp ((sd0_iff hs8).mp hsub)
        refine lp (fun m u b => fl_X7_layWays_42 (fl_X7_layWays_9 g) m w u (-1 : Int32) (0 : Int32) (nI s) (nI b)) n (fun b u => (∀ y, y < s → u y = ws y) ∧ u s = nI (sm8 (fun c => if pfree bd s c = true then NN (vv bd x n) (pcn s 8 - 1) (sd x (sd s (2 ^ c))) x else 0) b)) _ ?_ ?_ n 300 (upd ws s (0 : Int32)) 0 (by omega) (by omega) ⟨fun y hy => upd_ne (by omega), upd_eq⟩
        · intro m u ⟨hu1, hu2⟩
          show ∃ r, fl_X7_layWays_42 (fl_X7_layWays_9 g) (m + 1) w u (-1 : Int32) (0 : Int32) (nI s) (nI n) = some r ∧ _
          rw [fl_X7_layWays_42, hW.1, if_pos (Int32.le_refl _)]
          refine ih' u ?_
          intro y hy hyx
          by_cases e : y = s
          · subst e
            rw [hu2]
            congr 1
            obtain ⟨q, hq⟩ : ∃ q, pcn y 8 = q + 1 := by
              obtain ⟨c, hcb⟩ := Nat.exists_testBit_of_ne_zero (show y ≠ 0 by omega)
              have := pc_sd y hs8 c (tb8 hs8 hcb) hcb
              exact ⟨pcn y 8 - 1, by omega⟩
            have hsp := pc_split x hx8 y hs8 hyx
            rw [hq, NN_first hv0 q (sd x y) x (sd_lt hx8) hx8 (fun j hj => by
              have hj8 := tb8 (sd_lt hx8) hj
              rw [sd_tb hj8, Bool.and_eq_true] at hj
              exact hj.1) (by omega)]
            have hcut : sm8 (fun c => if pfree bd y c = true then NN (vv bd x n) (q + 1 - 1) (sd x (sd y (2 ^ c))) x else 0) 8 = sm8 (fun c => if pfree bd y c = true then NN (vv bd x n) (q + 1 - 1) (sd x (sd y (2 ^ c))) x else 0) n := by
              have G : ∀ m, n + m ≤ 8 → sm8 (fun c => if pfree bd y c = true then NN (vv bd x n) (q + 1 - 1) (sd x (sd y (2 ^ c))) x else 0) (n + m) = sm8 (fun c => if pfree bd y c = true then NN (vv bd x n) (q + 1 - 1) (sd x (sd y (2 ^ c))) x else 0) n := by
                intro m
                induction m with
                | zero => intro _; rfl
                | succ m ihm =>
                  intro hm
                  show sm8 _ (n + m) + (if pfree bd y (n + m) = true then _ else 0) = _
                  have hpf : pfree bd y (n + m) = false := by
                    show (y.testBit (n + m) && _) = false
                    rw [tb_f (show y < 2 ^ n by omega) (by omega), Bool.false_and]
                  rw [hpf, if_neg (by decide), Nat.add_zero]
                  exact ihm (by omega)
              have h := G (8 - n) (by omega)
              rw [show n + (8 - n) = 8 by omega] at h
              exact h
            rw [← hcut]
            refine sm8_ext 8 (fun d hd' => ?_)
            have key : pfree bd y d = true ↔ (x.testBit d = true ∧ (sd x y).testBit d = false ∧ vv bd x n d &&& sd x y = vv bd x n d) := by
              constructor
              · intro hp
                have hyd : y.testBit d = true := by
                  unfold pfree at hp
                  rw [Bool.and_eq_true] at hp
                  exact hp.1
                have hxd := hsx d hyd
                have hdn := vb_out hC hx hxd
                have hsdxy : sd x (sd x y) = y := by
                  apply Nat.eq_of_testBit_eq
                  intro j
                  by_cases hj8 : j < 8
                  · rw [sd_tb hj8, sd_tb hj8]
                    cases hyj : y.testBit j
                    · cases hxj : x.testBit j <;> rfl
                    · rw [hsx j hyj]; rfl
                  · rw [tb_f (n := 8) (sd_lt hx8) (by omega), tb_f (n := 8) hs8 (by omega)]
                have h3 := (pfree_sd hC hx (s := sd x y) hdn).mp (by rw [hsdxy]; exact hp)
                refine ⟨hxd, h3.2.1, ?_⟩
                unfold vv
                rw [if_pos hdn]
                exact sub_iff.mpr h3.2.2
              · rintro ⟨h1, h3, h4⟩
                have hdn := vb_out hC hx h1
                have hsdxy : sd x (sd x y) = y := by
                  apply Nat.eq_of_testBit_eq
                  intro j
                  by_cases hj8 : j < 8
                  · rw [sd_tb hj8, sd_tb hj8]
                    cases hyj : y.testBit j
                    · cases hxj : x.testBit j <;> rfl
                    · rw [hsx j hyj]; rfl
                  · rw [tb_f (n := 8) (sd_lt hx8) (by omega), tb_f (n := 8) hs8 (by omega)]
                unfold vv at h4
                rw [if_pos hdn] at h4
                have h5 := (pfree_sd hC hx (s := sd x y) hdn).mpr ⟨h1, h3, sub_iff.mp h4⟩
                rw [hsdxy] at h5
                exact h5
            by_cases hp : pfree bd y d = true
            · rw [if_pos hp, if_pos (key.mp hp)]
              have hyd : y.testBit d = true := by
                have hp2 := hp
                unfold pfree at hp2
                rw [Bool.and_eq_true] at hp2
                exact hp2.1
              have hset : sd x (sd y (2 ^ d)) = sd x y ||| 2 ^ d := by
                apply Nat.eq_of_testBit_eq
                intro j
                by_cases hj8 : j < 8
                · rw [sd_tb hj8, sd_tb hj8, Nat.testBit_or, sd_tb hj8, Nat.testBit_two_pow]
                  by_cases ed : d = j
                  · subst ed
                    rw [decide_eq_true rfl, hyd, hsx d hyd]; rfl
                  · rw [decide_eq_false ed]
                    simp
                · rw [tb_f (n := 8) (sd_lt hx8) (by omega), tb_f (n := 8) (Nat.or_lt_two_pow (n := 8) (sd_lt hx8) (Nat.pow_lt_pow_right (by omega) hd')) (by omega)]
              rw [hset, Nat.add_sub_cancel]
            · rw [if_neg hp, if_neg (fun h => hp (key.mpr h))]
          · rw [hu1 y (by omega)]
            exact hL y (by omega) hyx
        · intro m u b hb ⟨hu1, hu2⟩
          right
          show ∃ s', ((∀ y, y < s → s' y = ws y) ∧ s' s = nI (sm8 (fun c => if pfree bd s c = true then NN (vv bd x n) (pcn s 8 - 1) (sd x (sd s (2 ^ c))) x else 0) b + (if pfree bd s b = true then NN (vv bd x n) (pcn s 8 - 1) (sd x (sd s (2 ^ b))) x else 0))) ∧ fl_X7_layWays_42 (fl_X7_layWays_9 g) (m + 1) w u (-1 : Int32) (0 : Int32) (nI s) (nI b) = fl_X7_layWays_42 (fl_X7_layWays_9 g) m w s' (-1 : Int32) (0 : Int32) (nI s) (nI (b + 1))
          have hl : sd s (2 ^ b) < 256 := sd_lt hs8
          have iy : ¬ (nI (sd s (2 ^ b)) < 0 ∨ 256 ≤ (nI (sd s (2 ^ b))).toNatClampNeg) := nI_in hl (by decide)
          have hne : ¬ nI b = (-1 : Int32) := by
            have hh : ∀ b, b < 8 → ¬ nI b = (-1 : Int32) := by decide
            exact hh b (by omega)
          rw [fl_X7_layWays_42, hW.1, if_neg (nI_ge hb (by omega)), s_isFree w hs8 (by omega), pfree_w hW hb, sd2 hs8 (by omega), nI_1]
          simp only [if_neg ix, if_neg iy, if_neg hne]
          rw [cl, nI_clamp (n := sd s (2 ^ b)) (by omega), hu2]
          cases hf : pfree bd s b
          · rw [if_pos (show (if (false = true) then (1 : Int32) else 0) = 0 from rfl)]
            refine ⟨_, ⟨fun y hy => (upd_ne (by omega)).trans (hu1 y hy), ?_⟩, rfl⟩
            rw [upd_eq, Int32.add_zero, if_neg (by decide), Nat.add_zero]
          · have hbit : s.testBit b = true := by
              unfold pfree at hf
              rw [Bool.and_eq_true] at hf
              exact hf.1
            have hlt := sd_bit_lt hbit (show b < 8 by omega) hs8
            have hpb := pc_sd s hs8 b (by omega) hbit
            rw [if_neg (show ¬ (if (true = true) then (1 : Int32) else 0) = 0 by decide)]
            refine ⟨_, ⟨fun y hy => (upd_ne (by omega)).trans (hu1 y hy), ?_⟩, rfl⟩
            rw [upd_eq, hu1 _ hlt, hL _ hlt (sd_sub hsub), nI_add, if_pos rfl, show pcn (sd s (2 ^ b)) 8 = pcn s 8 - 1 by omega]
      · have hne : ¬ nI (sd s x) = 0 := nI_ne0 (by omega) (by have := sd_lt (b := x) hs8; omega)
        rw [if_neg hne]
        refine ih' _ ?_
        intro y hy hyx
        by_cases e : y = s
        · subst e
          exact absurd hyx hsub
        · rw [upd_ne e]
          exact hL y (by omega) hyx
  have fin := outer x 300 1 (upd ways 0 (1 : Int32)) (by omega) (by omega) (by omega) (fun u hu _ => by
    have e : u = 0 := by omega
    subst e
    rw [upd_eq]
    rfl)
  rw [sd_self hx8] at fin
  exact fin
/-- the reference's search for the first that is free -/
theorem s_first {n : Nat} {kd hd bd pt w : Nat → Int32} (hC : KC n kd hd bd pt) (hW : KW n kd hd bd pt w) (ko : (Nat → Int32) → (Nat → Int32) → Int32 → Int32 → Int32 → Option (Int32 × (Nat → Int32))) (ways : Nat → Int32) (k a : Int32) {s c : Nat} (hs : s < 256) (hc : c < n) (hf : pfree bd s c = true) (hl : ∀ d, d < c → s.testBit d = false) : fl_X7_orders_46 ko 300 w ways k (nI s) a (0 : Int32) = if a = k then some (nI c, ways) else ko w ways k (nI (sd s (2 ^ c))) (a + 1) := by
  have hn := hC.1
  have go : ∀ m fuel v, v + m = c → m < fuel → fl_X7_orders_46 ko fuel w ways k (nI s) a (nI v) = if a = k then some (nI c, ways) else ko w ways k (nI (sd s (2 ^ c))) (a + 1) := by
    intro m
    induction m with
    | zero =>
      intro fuel v hv hfu
      obtain ⟨g, rfl⟩ : ∃ g, fuel = g + 1 := ⟨fuel - 1, by omega⟩
      have e : v = c := by omega
      subst e
      rw [fl_X7_orders_46, s_isFree w hs (by omega), pfree_w hW hc, hf, if_pos rfl]
      dsimp only
      rw [if_neg n10, sd2 hs (by omega)]
    | succ m ih =>
      intro fuel v hv hfu
      obtain ⟨g, rfl⟩ : ∃ g, fuel = g + 1 := ⟨fuel - 1, by omega⟩
      have e : pfree (fun c => w (22 + c)) s v = false := by
        show (s.testBit v && _) = false
        rw [hl v (by omega), Bool.false_and]
      rw [fl_X7_orders_46, s_isFree w hs (by omega), e, if_neg (by decide)]
      dsimp only
      rw [if_pos rfl, nI_1]
      exact ih g (v + 1) (by omega) (by omega)
  exact go c 300 0 (by omega) (by omega)
theorem low_tb : ∀ c, c < 9 → ∀ j, j < 8 → (Nat.testBit (2 ^ c - 1) j = decide (j < c)) := by decide +kernel
theorem ko_orders {kd hd bd pt pn w : Nat → Int32} {sz ps t wars wet day drawn : Int32} (H : KR kd hd bd pt sz pn ps t wars wet day drawn w) (fb fw ways : Nat → Int32) (a1 : Int32) : ∃ q1 q2, f_X6_orders bd t fb fw a1 = some q1 ∧ f_X7_orders w ways a1 = some q2 ∧ q1.1 = q2.1 := by
  obtain ⟨n, k0, rfl, rfl, hC, hW, hG, hH, hP⟩ := H
  have hn := hC.1
  obtain ⟨⟨x, hx, rfl⟩, gw, gd, gr⟩ := hG
  have h2 : w 2 = nI x := hH.2.2.1
  have hx8 : x < 256 := Nat.lt_of_lt_of_le hx (p8 hn)
  unfold f_X6_orders f_X7_orders
  by_cases c1 : (-1 : Int32) ≤ a1
  · rw [if_pos c1, if_pos c1]
    by_cases c2 : a1 = (-1 : Int32)
    · rw [if_pos c2, if_pos c2]
      obtain ⟨r, er, hr⟩ := s_countO hC hx fb fw
      obtain ⟨r7, e7, hr7⟩ := s_lay7 hC hW hx h2 ways
      rw [er, e7]
      dsimp only
      rw [h2, if_neg (nI_in hx8 (by decide)), nI_clamp (by omega)]
      exact ⟨_, _, rfl, rfl, hr.trans hr7.symm⟩
    · rw [if_neg c2, if_neg c2]
      have h0 : ¬ a1 < 0 := by
        intro h
        apply c2
        apply Int32.toInt_inj.mp
        rw [Int32.lt_iff_toInt_lt] at h
        rw [Int32.le_iff_toInt_le] at c1
        have e1 : (-1 : Int32).toInt = -1 := by decide
        have e2 : (0 : Int32).toInt = 0 := by decide
        omega
      obtain ⟨k, hk, rfl⟩ := nI_of h0
      have go : ∀ m f6 f7 c a, c + m = 8 → m < f6 → m < f7 → a ≤ k → a ≤ c → ∃ r q2, fl_X6_nthOf_4 f6 (nI x) (nI (k - a)) (nI c) = some r ∧ fl_X7_orders_39 f7 w ways (nI k) (nI (sd x (2 ^ c - 1))) (nI a) = some q2 ∧ r = q2.1 := by
        intro m
        induction m with
        | zero =>
          intro f6 f7 c a hc hf6 hf7 _ _
          obtain ⟨f6, rfl⟩ : ∃ g, f6 = g + 1 := ⟨f6 - 1, by omega⟩
          obtain ⟨f7, rfl⟩ : ∃ g, f7 = g + 1 := ⟨f7 - 1, by omega⟩
          have e : c = 8 := by omega
          subst e
          have ez : sd x (2 ^ 8 - 1) = 0 := (sd0_iff hx8).mpr (sub_iff.mpr (fun j hj => by
            have hj8 := tb8 hx8 hj
            rw [low_tb 8 (by omega) j hj8, decide_eq_true hj8]))
          rw [fl_X6_nthOf_4, if_pos (by decide), ez, fl_X7_orders_39, if_pos (show nI 0 = (0 : Int32) from rfl)]
          exact ⟨_, _, rfl, rfl, rfl⟩
        | succ m ih =>
          intro f6 f7 c a hc hf6 hf7 hak hac
          obtain ⟨f6, rfl⟩ : ∃ g, f6 = g + 1 := ⟨f6 - 1, by omega⟩
          have hc8 : c < 8 := by omega
          have hsc8 : sd x (2 ^ c - 1) < 256 := sd_lt hx8
          have tbs : ∀ d, d ≤ 8 → ∀ j, j < 8 → (sd x (2 ^ d - 1)).testBit j = (x.testBit j && !decide (j < d)) := by
            intro d hd' j hj
            rw [sd_tb hj, low_tb d (by omega) j hj]
          rw [fl_X6_nthOf_4, if_neg (kb8 hc8), nI_1]
          cases hxc : x.testBit c
          · rw [if_pos (h6f hx8 hc8 hxc)]
            have es : sd x (2 ^ c - 1) = sd x (2 ^ (c + 1) - 1) := by
              apply Nat.eq_of_testBit_eq
              intro j
              by_cases hj8 : j < 8
              · rw [tbs c (by omega) j hj8, tbs (c + 1) (by omega) j hj8]
                by_cases ej : j = c
                · subst ej; rw [hxc, Bool.false_and, Bool.false_and]
                · by_cases hjc : j < c
                  · rw [decide_eq_true hjc, decide_eq_true (show j < c + 1 by omega)]
                  · rw [decide_eq_false hjc, decide_eq_false (show ¬ j < c + 1 by omega)]
              · rw [tb_f (n := 8) (sd_lt hx8) (by omega), tb_f (n := 8) (sd_lt hx8) (by omega)]
            rw [es]
            exact ih f6 f7 (c + 1) a (by omega) (by omega) (by omega) hak (by omega)
          · obtain ⟨f7, rfl⟩ : ∃ g, f7 = g + 1 := ⟨f7 - 1, by omega⟩
            have hcn := vb_out hC hx hxc
            have hbit : (sd x (2 ^ c - 1)).testBit c = true := by
              rw [tbs c (by omega) c hc8, hxc, decide_eq_false (show ¬ c < c by omega)]; rfl
            have hlow : ∀ d, d < c → (sd x (2 ^ c - 1)).testBit d = false := by
              intro d hd'
              rw [tbs c (by omega) d (by omega), decide_eq_true hd', Bool.not_true, Bool.and_false]
            have hsn : sd x (2 ^ c - 1) < 2 ^ n := sd_lt hx
            have hnz : sd x (2 ^ c - 1) ≠ 0 := by
              intro h
              rw [h, Nat.zero_testBit] at hbit
              exact absurd hbit (by decide)
            obtain ⟨c', hc', hb', hf', hl'⟩ := least_free hC hsn hnz
            have ec : c' = c := by
              by_cases h1 : c' < c
              · rw [hlow c' h1] at hb'
                exact absurd hb' (by decide)
              · by_cases h3 : c < c'
                · rw [hl' c h3] at hbit
                  exact absurd hbit (by decide)
                · omega
            subst ec
            have e46 := s_first hC hW (fl_X7_orders_39 f7) ways (nI k) (nI a) hsc8 hcn hf' hlow
            have hb31 : sd x (2 ^ c' - 1) < 2 ^ 31 := by omega
            rw [if_neg (h6t hx8 hc8 hxc), fl_X7_orders_39, if_neg (nI_ne0 (by omega) hb31), e46]
            by_cases hka : k = a
            · subst hka
              rw [if_pos (show nI (k - k) = (0 : Int32) by rw [Nat.sub_self]; rfl), if_pos rfl]
              exact ⟨_, _, rfl, rfl, rfl⟩
            · have e1 : nI (k - a) + (-1 : Int32) = nI (k - (a + 1)) := by
                rw [show k - a = (k - (a + 1)) + 1 by omega]
                exact pk_m1 _
              rw [if_neg (nI_ne0 (by omega) (by omega)), if_neg (fun h => hka ((nI_eq (by omega) (by omega)).mp h).symm), e1, nI_1]
              have es : sd (sd x (2 ^ c' - 1)) (2 ^ c') = sd x (2 ^ (c' + 1) - 1) := by
                apply Nat.eq_of_testBit_eq
                intro j
                by_cases hj8 : j < 8
                · rw [sd_tb hj8, tbs c' (by omega) j hj8, tbs (c' + 1) (by omega) j hj8, Nat.testBit_two_pow]
                  by_cases ej : c' = j
                  · subst ej
                    rw [decide_eq_true rfl, decide_eq_true (show c' < c' + 1 by omega)]
                    simp
                  · rw [decide_eq_false ej]
                    by_cases hjc : j < c'
                    · rw [decide_eq_true hjc, decide_eq_true (show j < c' + 1 by omega)]; simp
                    · rw [decide_eq_false hjc, decide_eq_false (show ¬ j < c' + 1 by omega)]; simp
                · rw [tb_f (n := 8) (sd_lt hsc8) (by omega), tb_f (n := 8) (sd_lt hx8) (by omega)]
              rw [es]
              exact ih f6 f7 (c' + 1) (a + 1) (by omega) (by omega) (by omega) (by omega) (by omega)
      obtain ⟨r, q2, e1, e2, e3⟩ := go 8 300 300 0 0 (by omega) (by omega) (by omega) (by omega) (by omega)
      have e1' : f_X6_nthOf (nI x) (nI k) = some r := e1
      have ex : sd x (2 ^ 0 - 1) = x := by
        apply Nat.eq_of_testBit_eq
        intro j
        by_cases hj8 : j < 8
        · rw [sd_tb hj8, low_tb 0 (by omega) j hj8, decide_eq_false (show ¬ j < 0 by omega), Bool.not_false, Bool.and_true]
        · rw [tb_f (n := 8) (sd_lt hx8) (by omega), tb_f (n := 8) hx8 (by omega)]
      rw [ex] at e2
      have e2' : fl_X7_orders_39 300 w ways (nI k) (nI x) (0 : Int32) = some q2 := e2
      rw [e1', h2, e2']
      exact ⟨_, _, rfl, rfl, e3⟩
  · rw [if_neg c1, if_neg c1]
    exact ⟨_, _, rfl, rfl, rfl⟩
