/-! 51: the rope's picture, and what is weighed, free, falling -/
def KC (n : Nat) (kd hd bd pt : Nat → Int32) : Prop := n ≤ 8 ∧ ∀ c, c < n → (∃ k, k < 5 ∧ kd c = nI k) ∧ (∃ h, 1 ≤ h ∧ h ≤ 20 ∧ hd c = nI h) ∧ (∃ b, b < 2 ^ c ∧ bd c = nI b) ∧ (∃ p, p < 4 ∧ pt c = nI p)
def KW (n : Nat) (kd hd bd pt w : Nat → Int32) : Prop := w 5 = nI n ∧ ∀ c, c < n → w (6 + c) = kd c ∧ w (14 + c) = hd c ∧ w (22 + c) = bd c ∧ w (30 + c) = pt c
def KG (n : Nat) (t wet day drawn : Int32) : Prop := (∃ x, x < 2 ^ n ∧ t = nI x) ∧ (wet = 0 ∨ wet = 1) ∧ (∃ d, d ≤ 9999 ∧ day = nI d) ∧ ¬ drawn < 0
def KH (w : Nat → Int32) (i : Nat) (t wars wet day drawn : Int32) : Prop := w i = day ∧ w (i + 1) = drawn ∧ w (i + 2) = t ∧ w (i + 3) = wet ∧ w (i + 4) = wars
def KP (n k : Nat) (pn w : Nat → Int32) : Prop := k ≤ 8 ∧ w 38 = nI k ∧ ∀ j, j < k → KG n (pn (5 * j)) (pn (5 * j + 2)) (pn (5 * j + 3)) (pn (5 * j + 4)) ∧ KH w (39 + 5 * j) (pn (5 * j)) (pn (5 * j + 1)) (pn (5 * j + 2)) (pn (5 * j + 3)) (pn (5 * j + 4))
def KR (kd hd bd pt : Nat → Int32) (sz : Int32) (pn : Nat → Int32) (ps t wars wet day drawn : Int32) (w : Nat → Int32) : Prop :=
  ∃ n k, sz = nI n ∧ ps = nI k ∧ KC n kd hd bd pt ∧ KW n kd hd bd pt w ∧ KG n t wet day drawn ∧ KH w 0 t wars wet day drawn ∧ KP n k pn w
theorem p8 {n : Nat} (h : n ≤ 8) : 2 ^ n ≤ 256 := Nat.pow_le_pow_right (n := 2) (by omega) h
theorem s_isCl {n : Nat} (hn : n ≤ 8) {w : Nat → Int32} (hw : w 5 = nI n) (p : Int32) : (f_X6_isClause (nI n) p = 0 ∧ f_X7_isClause w p = 0) ∨ (∃ c, c < n ∧ p = nI c ∧ ¬ f_X6_isClause (nI n) p = 0 ∧ ¬ f_X7_isClause w p = 0) := by
  have e0 : (0 : Int32).toInt = 0 := by decide
  have em : (nI n - 1).toInt = (n : Int) - 1 := by
    have hh : ∀ n : Nat, n < 9 → (nI n - 1).toInt = (n : Int) - 1 := by decide
    exact hh n (by omega)
  have en : (nI n).toInt = (n : Int) := nI_toInt (by omega)
  unfold f_X7_isClause f_X7_in f_X6_isClause
  rw [hw]
  by_cases h0 : p < 0
  · left
    rw [if_pos h0, if_pos h0]
    exact ⟨rfl, rfl⟩
  · by_cases h1 : nI n ≤ p
    · left
      rw [if_neg h0, if_pos h1, if_neg h0]
      refine ⟨rfl, ?_⟩
      rw [if_pos]
      rw [Int32.lt_iff_toInt_lt]
      rw [Int32.le_iff_toInt_le] at h1
      omega
    · right
      rcases pk_ix p (n := n) (by omega) with h | h | ⟨c, hc, e⟩
      · exact absurd h h0
      · exact absurd h h1
      · refine ⟨c, hc, e, ?_, ?_⟩
        · rw [if_neg h0, if_neg h1, if_neg (by rw [e]; exact kb8 (by omega))]; decide
        · rw [if_neg h0, if_neg]
          · decide
          · rw [Int32.lt_iff_toInt_lt, em, e, nI_toInt (by omega)]
            omega
def pfree (bd : Nat → Int32) (a c : Nat) : Bool := a.testBit c && decide ((bd c &&& nI a) = 0)
theorem s_free6 (bd : Nat → Int32) {a : Nat} (ha : a < 256) : f_X4_freeAmong bd (nI a) = some (nI (ng (pfree bd a) 8)) := by
  refine lpo (fun n s c => fl_X4_freeAmong_4 n bd (nI a) s (nI c)) 8 (pfree bd a) (by omega) ?_ ?_ ?_
  · intro n s
    show fl_X4_freeAmong_4 (n + 1) bd (nI a) s (nI 8) = some s
    rw [fl_X4_freeAmong_4, if_pos (by decide)]
  · intro n s c hc hp
    show fl_X4_freeAmong_4 (n + 1) bd (nI a) s (nI c) = fl_X4_freeAmong_4 n bd (nI a) _ (nI (c + 1))
    have h1 : a.testBit c = true ∧ (bd c &&& nI a) = 0 := by
      unfold pfree at hp
      rw [Bool.and_eq_true, decide_eq_true_eq] at hp
      exact hp
    rw [fl_X4_freeAmong_4, if_neg (kb8 hc), if_neg (h6t ha hc h1.1), if_neg (nI_in hc (by decide)), nI_clamp (by omega), if_pos h1.2, nI_1]
  · intro n s c hc hp
    left
    show fl_X4_freeAmong_4 (n + 1) bd (nI a) s (nI c) = fl_X4_freeAmong_4 n bd (nI a) s (nI (c + 1))
    rw [fl_X4_freeAmong_4, if_neg (kb8 hc), nI_1]
    cases ht : a.testBit c
    · rw [if_pos (h6f ha hc ht)]
    · have h2 : ¬ (bd c &&& nI a) = 0 := by
        intro h
        unfold pfree at hp
        rw [ht, decide_eq_true h] at hp
        exact absurd hp (by decide)
      rw [if_neg (h6t ha hc ht), if_neg (nI_in hc (by decide)), nI_clamp (by omega), if_neg h2]
theorem s_firm6 (kd hd : Nat → Int32) (wet day : Int32) {c : Nat} (hc : c < 8) : f_X4_firmOf kd hd wet day (nI c) = some (f_X4_firmBy wet (kd c) (hd c) day) := by
  unfold f_X4_firmOf f_X4_firmOnDay
  rw [if_neg (nI_in hc (by decide)), if_neg (nI_in hc (by decide)), nI_clamp (by omega)]
theorem s_weigh (kd hd fm : Nat → Int32) (wet day : Int32) : ∃ f', f_X4_weigh kd hd fm wet day = some f' ∧ ∀ c, c < 8 → f' c = f_X4_firmBy wet (kd c) (hd c) day :=
  lp (fun n f v => fl_X4_weigh_2 n kd hd f wet day (nI v)) 8 (fun v f => ∀ c, c < v → f c = f_X4_firmBy wet (kd c) (hd c) day) _
    (fun n f h => ⟨f, by
      show fl_X4_weigh_2 (n + 1) kd hd f wet day (nI 8) = some f
      rw [fl_X4_weigh_2, if_pos (by decide)], h⟩)
    (fun n f v hv h => Or.inr ⟨upd f v (f_X4_firmBy wet (kd v) (hd v) day), by
      intro c hc
      by_cases e : c = v
      · subst e; exact upd_eq
      · rw [upd_ne e]; exact h c (by omega), by
      show fl_X4_weigh_2 (n + 1) kd hd f wet day (nI v) = fl_X4_weigh_2 n kd hd _ wet day (nI (v + 1))
      rw [fl_X4_weigh_2, if_neg (kb8 hv), s_firm6 kd hd wet day hv]
      dsimp only
      rw [if_neg (nI_in hv (by decide)), nI_clamp (by omega), nI_1]⟩)
    8 300 fm 0 (by omega) (by omega) (fun c hc => absurd hc (by omega))
def fallN (kd hd bd : Nat → Int32) (wet day : Int32) (a : Nat) (f : Int32) : Nat := ng (fun c => pfree bd a c && decide (¬ f < f_X4_firmBy wet (kd c) (hd c) day)) 8
theorem fallN_lt (kd hd bd : Nat → Int32) (wet day : Int32) (a : Nat) (f : Int32) : fallN kd hd bd wet day a f < 256 := ng_lt _ 8
theorem s_falls6 {kd hd bd fm : Nat → Int32} {wet day : Int32} {a : Nat} (ha : a < 256) (hf : ∀ c, c < 8 → fm c = f_X4_firmBy wet (kd c) (hd c) day) (f : Int32) : f_X4_fallsAmong bd fm (nI a) f = some (nI (fallN kd hd bd wet day a f)) := by
  unfold f_X4_fallsAmong
  rw [s_free6 bd ha]
  dsimp only
  have hl : ng (pfree bd a) 8 < 256 := ng_lt _ 8
  have ht : ∀ c, c < 8 → (ng (pfree bd a) 8).testBit c = pfree bd a c := by
    intro c hc
    rw [ng_tb, decide_eq_true hc, Bool.true_and]
  refine lpo (fun n s c => fl_X4_fallsAmong_12 n bd fm f (nI (ng (pfree bd a) 8)) s (nI c)) 8 _ (by omega) ?_ ?_ ?_
  · intro n s
    show fl_X4_fallsAmong_12 (n + 1) bd fm f _ s (nI 8) = some s
    rw [fl_X4_fallsAmong_12, if_pos (by decide)]
  · intro n s c hc hp
    show fl_X4_fallsAmong_12 (n + 1) bd fm f _ s (nI c) = fl_X4_fallsAmong_12 n bd fm f _ _ (nI (c + 1))
    rw [Bool.and_eq_true, decide_eq_true_eq] at hp
    rw [fl_X4_fallsAmong_12, if_neg (kb8 hc), if_neg (h6t hl hc ((ht c hc).trans hp.1)), if_neg (nI_in hc (by decide)), nI_clamp (by omega), hf c hc, if_neg hp.2, nI_1]
  · intro n s c hc hp
    left
    show fl_X4_fallsAmong_12 (n + 1) bd fm f _ s (nI c) = fl_X4_fallsAmong_12 n bd fm f _ s (nI (c + 1))
    rw [fl_X4_fallsAmong_12, if_neg (kb8 hc), nI_1]
    cases hq : pfree bd a c
    · rw [if_pos (h6f hl hc ((ht c hc).trans hq))]
    · rw [hq, Bool.true_and, decide_eq_false_iff_not, Classical.not_not] at hp
      rw [if_neg (h6t hl hc ((ht c hc).trans hq)), if_neg (nI_in hc (by decide)), nI_clamp (by omega), hf c hc, if_pos hp]
/-! the reference -/
theorem c6 (n : Nat) : (6 : Int32) + nI n = nI (6 + n) := nI_add 6 n
theorem c14 (n : Nat) : (14 : Int32) + nI n = nI (14 + n) := nI_add 14 n
theorem c22 (n : Nat) : (22 : Int32) + nI n = nI (22 + n) := nI_add 22 n
theorem c30 (n : Nat) : (30 : Int32) + nI n = nI (30 + n) := nI_add 30 n
theorem s_isFree (w : Nat → Int32) {a c : Nat} (ha : a < 256) (hc : c < 8) : f_X7_isFree w (nI c) (nI a) = some (if pfree (fun c => w (22 + c)) a c then 1 else 0) := by
  unfold f_X7_isFree pfree
  cases ht : a.testBit c
  · rw [if_pos (h7f ha hc ht), Bool.false_and, if_neg (by decide)]
  · rw [if_neg (h7t ha hc ht), c22, if_neg (nI_in (by omega) (by decide)), nI_clamp (by omega), Bool.true_and]
    by_cases h : (w (22 + c) &&& nI a) = 0
    · rw [if_pos h, decide_eq_true h, if_pos rfl]
    · rw [if_neg h, decide_eq_false h, if_neg (by decide)]
theorem s_firm7 (w : Nat → Int32) {c : Nat} (hc : c < 8) : f_X7_firm w (nI c) = some (f_X7_firmBy w (w (6 + c)) (w (14 + c))) := by
  unfold f_X7_firm
  rw [c6, c14, if_neg (nI_in (by omega) (by decide)), if_neg (nI_in (by omega) (by decide)), nI_clamp (by omega), nI_clamp (by omega)]
theorem s_firmBy (w : Nat → Int32) {k : Nat} (hk : k < 5) (h : Int32) : f_X7_firmBy w (nI k) h = f_X4_firmBy (w 3) (nI k) h (w 0) := by
  unfold f_X7_firmBy f_X4_firmBy
  have hh : k = 0 ∨ k = 1 ∨ k = 2 ∨ k = 3 ∨ k = 4 := by omega
  rcases hh with e | e | e | e | e <;> subst e
  · rw [if_pos (show nI 0 = (0 : Int32) from rfl), if_pos (show nI 0 = (0 : Int32) from rfl), if_pos (show nI 0 = (0 : Int32) from rfl), if_pos (show nI 0 = (0 : Int32) from rfl)]
  all_goals (simp only [show (nI 1 = (0 : Int32)) = False from eq_false (by decide), show (nI 1 = (1 : Int32)) = True from eq_true (by decide),
    show (nI 2 = (0 : Int32)) = False from eq_false (by decide), show (nI 2 = (1 : Int32)) = False from eq_false (by decide), show (nI 2 = (2 : Int32)) = True from eq_true (by decide),
    show (nI 3 = (0 : Int32)) = False from eq_false (by decide), show (nI 3 = (1 : Int32)) = False from eq_false (by decide), show (nI 3 = (2 : Int32)) = False from eq_false (by decide), show (nI 3 = (3 : Int32)) = True from eq_true (by decide),
    show (nI 4 = (0 : Int32)) = False from eq_false (by decide), show (nI 4 = (1 : Int32)) = False from eq_false (by decide), show (nI 4 = (2 : Int32)) = False from eq_false (by decide), show (nI 4 = (3 : Int32)) = False from eq_false (by decide), show (nI 4 = (4 : Int32)) = True from eq_true (by decide), if_true, if_false])
theorem s_falls7 {n : Nat} {kd hd bd pt w : Nat → Int32} (hC : KC n kd hd bd pt) (hW : KW n kd hd bd pt w) {a : Nat} (ha : a < 2 ^ n) (h2 : w 2 = nI a) (f : Int32) : f_X7_fallsIn w f = some (nI (fallN kd hd bd (w 3) (w 0) a f)) := by
  have ha8 : a < 256 := Nat.lt_of_lt_of_le ha (p8 hC.1)
  have hn := hC.1
  have e : fallN kd hd bd (w 3) (w 0) a f = ng (fun c => pfree (fun c => w (22 + c)) a c && decide (¬ f < f_X7_firmBy w (w (6 + c)) (w (14 + c)))) n := by
    refine ng_cut hC.1 ?_ ?_
    · intro c hc
      obtain ⟨w6, w14, w22, w30⟩ := hW.2 c hc
      obtain ⟨⟨k, hk, ek⟩, -⟩ := hC.2 c hc
      rw [w6, w14, ek, s_firmBy w hk]
      show (_ && decide ((bd c &&& nI a) = 0) && _) = (_ && decide ((w (22 + c) &&& nI a) = 0) && _)
      rw [w22]
    · intro c hc _
      have ht : a.testBit c = false := Nat.testBit_lt_two_pow (Nat.lt_of_lt_of_le ha (Nat.pow_le_pow_right (by omega) hc))
      show (a.testBit c && _ && _) = false
      rw [ht, Bool.false_and, Bool.false_and]
  rw [e]
  unfold f_X7_fallsIn
  refine lpo (fun m s c => fl_X7_fallsIn_4 m w f s (nI c)) n _ (by omega) ?_ ?_ ?_
  · intro m s
    show fl_X7_fallsIn_4 (m + 1) w f s (nI n) = some s
    rw [fl_X7_fallsIn_4, hW.1, if_pos (Int32.le_refl _)]
  · intro m s c hc hp
    show fl_X7_fallsIn_4 (m + 1) w f s (nI c) = fl_X7_fallsIn_4 m w f _ (nI (c + 1))
    rw [Bool.and_eq_true, decide_eq_true_eq] at hp
    rw [fl_X7_fallsIn_4, hW.1, if_neg (nI_ge hc (by omega)), h2, s_isFree w ha8 (by omega), if_pos hp.1]
    dsimp only
    rw [if_neg (by decide), s_firm7 w (by omega)]
    dsimp only
    rw [if_neg hp.2, nI_1]
  · intro m s c hc hp
    right
    show fl_X7_fallsIn_4 (m + 1) w f s (nI c) = fl_X7_fallsIn_4 m w f (s ||| 0) (nI (c + 1))
    rw [fl_X7_fallsIn_4, hW.1, if_neg (nI_ge hc (by omega)), h2, s_isFree w ha8 (by omega)]
    cases hq : pfree (fun c => w (22 + c)) a c
    · rw [if_neg (by decide)]
      dsimp only
      rw [if_pos rfl, nI_1]
    · rw [hq, Bool.true_and, decide_eq_false_iff_not, Classical.not_not] at hp
      rw [if_pos rfl]
      dsimp only
      rw [if_neg (by decide), s_firm7 w (by omega)]
      dsimp only
      rw [if_pos hp, nI_1]
theorem s_bring1 (a b c : Nat) (ha : a + c ≤ 79) (hb : b + c ≤ 79) (hab : b ≤ a ∨ a + c ≤ b) (s : Nat → Int32) : ∃ s', f_X7_bring_1 s (nI a) (nI b) (nI c) = some s' ∧ (∀ j, j < c → s' (b + j) = s (a + j)) ∧ (∀ i, i < b ∨ b + c ≤ i → s' i = s i) :=
  lp (fun n cur v => fl_X7_bring_1_3 n cur (nI a) (nI b) (nI c) (nI v)) c (fun v cur => (∀ j, j < v → cur (b + j) = s (a + j)) ∧ (∀ i, i < b ∨ b + v ≤ i → cur i = s i)) _
    (fun n cur h => ⟨cur, by
      show fl_X7_bring_1_3 (n + 1) cur (nI a) (nI b) (nI c) (nI c) = some cur
      rw [fl_X7_bring_1_3, if_pos (Int32.le_refl _)], h⟩)
    (fun n cur v hv h => Or.inr ⟨upd cur (b + v) (cur (a + v)), by
      constructor
      · intro j hj
        by_cases e : j = v
        · subst e; rw [upd_eq]; exact h.2 _ (by omega)
        · rw [upd_ne (by omega)]; exact h.1 j (by omega)
      · intro i hi
        rw [upd_ne (by omega)]; exact h.2 i (by omega), by
      show fl_X7_bring_1_3 (n + 1) cur (nI a) (nI b) (nI c) (nI v) = fl_X7_bring_1_3 n _ (nI a) (nI b) (nI c) (nI (v + 1))
      rw [fl_X7_bring_1_3, if_neg (nI_ge hv (by omega)), nI_add, nI_add, if_neg (nI_in (by omega) (by decide)), if_neg (nI_in (by omega) (by decide)), nI_clamp (by omega), nI_clamp (by omega), nI_1]⟩)
    c 300 s 0 (by omega) (by omega) ⟨fun j h => absurd h (by omega), fun i _ => rfl⟩
theorem rem_eq (pn : Nat → Int32) (t w e d r : Int32) : ∀ k, k < 8 → f_X4_remember pn (nI k) t w e d r = some (upd (upd (upd (upd (upd pn (5 * k) t) (5 * k + 1) w) (5 * k + 2) e) (5 * k + 3) d) (5 * k + 4) r, nI (k + 1))
  | 0, _ => by with_unfolding_all rfl
  | 1, _ => by with_unfolding_all rfl
  | 2, _ => by with_unfolding_all rfl
  | 3, _ => by with_unfolding_all rfl
  | 4, _ => by with_unfolding_all rfl
  | 5, _ => by with_unfolding_all rfl
  | 6, _ => by with_unfolding_all rfl
  | 7, _ => by with_unfolding_all rfl
  | k + 8, h => absurd h (by omega)
theorem rem_8 (pn : Nat → Int32) (t w e d r : Int32) : f_X4_remember pn (nI 8) t w e d r = some (upd (upd (upd (upd (upd (va_cpy pn pn 5 0 35) 35 t) 36 w) 37 e) 38 d) 39 r, nI 8) := by with_unfolding_all rfl
theorem s_rem {n k : Nat} {pn w : Nat → Int32} {t wars wet day drawn : Int32} (hP : KP n k pn w) (hG : KG n t wet day drawn) (hH : KH w 0 t wars wet day drawn) :
    ∃ pn' k' w', f_X4_remember pn (nI k) t wars wet day drawn = some (pn', nI k') ∧ f_X7_note w = some w' ∧ KP n k' pn' w' ∧ ∀ i, i < 38 → w' i = w i := by
  obtain ⟨hk, h38, hj⟩ := hP
  obtain ⟨g0, g1, g2, g3, g4⟩ := hH
  by_cases h8 : k = 8
  · subst h8
    obtain ⟨w1, e1, q1, z1⟩ := s_bring1 44 39 35 (by omega) (by omega) (by omega) w
    obtain ⟨w2, e2, q2, z2⟩ := s_bring1 0 74 5 (by omega) (by omega) (by omega) (upd w1 38 (nI 7))
    refine ⟨_, 8, upd w2 38 (nI 8), rem_8 pn t wars wet day drawn, ?_, ⟨by omega, upd_eq, ?_⟩, ?_⟩
    · unfold f_X7_note
      rw [if_pos (h38.trans (by decide))]
      have e1' : f_X7_bring_1 w (44 : Int32) (39 : Int32) (35 : Int32) = some w1 := e1
      rw [e1']
      dsimp only
      have e38 : w1 38 - (1 : Int32) = nI 7 := by
        rw [z1 38 (by omega), h38]; decide
      rw [e38, upd_eq]
      have e2' : f_X7_bring_1 (upd w1 38 (nI 7)) (0 : Int32) ((39 : Int32) + (5 : Int32) * nI 7) (5 : Int32) = some w2 := e2
      rw [e2']
      dsimp only
      have e39 : w2 38 + (1 : Int32) = nI 8 := by
        rw [z2 38 (by omega), upd_eq]; decide
      rw [e39]
    · intro j hj8
      by_cases e : j = 7
      · subst e
        refine ⟨hG, ?_, ?_, ?_, ?_, ?_⟩
        · show upd w2 38 (nI 8) 74 = day
          rw [upd_ne (by omega)]
          exact ((q2 0 (by omega)).trans (upd_ne (by omega))).trans ((z1 0 (by omega)).trans g0)
        · show upd w2 38 (nI 8) 75 = drawn
          rw [upd_ne (by omega)]
          exact ((q2 1 (by omega)).trans (upd_ne (by omega))).trans ((z1 1 (by omega)).trans g1)
        · show upd w2 38 (nI 8) 76 = t
          rw [upd_ne (by omega)]
          exact ((q2 2 (by omega)).trans (upd_ne (by omega))).trans ((z1 2 (by omega)).trans g2)
        · show upd w2 38 (nI 8) 77 = wet
          rw [upd_ne (by omega)]
          exact ((q2 3 (by omega)).trans (upd_ne (by omega))).trans ((z1 3 (by omega)).trans g3)
        · show upd w2 38 (nI 8) 78 = wars
          rw [upd_ne (by omega)]
          exact ((q2 4 (by omega)).trans (upd_ne (by omega))).trans ((z1 4 (by omega)).trans g4)
      · obtain ⟨hg, k0, k1, k2, k3, k4⟩ := hj (j + 1) (by omega)
        have cp : ∀ i, i < 5 → upd (upd (upd (upd (upd (va_cpy pn pn 5 0 35) 35 t) 36 wars) 37 wet) 38 day) 39 drawn (5 * j + i) = pn (5 * (j + 1) + i) := by
          intro i hi
          rw [upd_ne (by omega), upd_ne (by omega), upd_ne (by omega), upd_ne (by omega), upd_ne (by omega), pk_cpy_in (by omega) (by omega)]
          congr 1
          omega
        have ww : ∀ i, i < 5 → upd w2 38 (nI 8) (39 + 5 * j + i) = w (39 + 5 * (j + 1) + i) := by
          intro i hi
          rw [upd_ne (by omega), z2 _ (by omega), upd_ne (by omega)]
          have h := q1 (5 * j + i) (by omega)
          rw [show 39 + 5 * j + i = 39 + (5 * j + i) by omega, h]
          congr 1
          omega
        rw [cp 1 (by omega), cp 2 (by omega), cp 3 (by omega), cp 4 (by omega), show 5 * j = 5 * j + 0 from rfl, cp 0 (by omega)]
        exact ⟨hg, (ww 0 (by omega)).trans k0, (ww 1 (by omega)).trans k1, (ww 2 (by omega)).trans k2, (ww 3 (by omega)).trans k3, (ww 4 (by omega)).trans k4⟩
    · intro i hi
      rw [upd_ne (by omega), z2 i (by omega), upd_ne (by omega), z1 i (by omega)]
  · have hk8 : k < 8 := by omega
    obtain ⟨w2, e2, q2, z2⟩ := s_bring1 0 (39 + 5 * k) 5 (by omega) (by omega) (by omega) w
    refine ⟨_, k + 1, upd w2 38 (nI (k + 1)), rem_eq pn t wars wet day drawn k hk8, ?_, ⟨by omega, upd_eq, ?_⟩, ?_⟩
    · unfold f_X7_note
      have hne : ¬ nI k = (8 : Int32) := fun h => h8 ((nI_eq (b := 8) (by omega) (by omega)).mp h)
      rw [h38, if_neg hne]
      have e4 : (39 : Int32) + (5 : Int32) * nI k = nI (39 + 5 * k) := by
        have a1 : (5 : Int32) * nI k = nI (5 * k) := pk_mul 5 k
        rw [a1]
        exact nI_add 39 (5 * k)
      rw [e4]
      have e2' : f_X7_bring_1 w (0 : Int32) (nI (39 + 5 * k)) (5 : Int32) = some w2 := e2
      rw [e2']
      dsimp only
      rw [z2 38 (by omega), h38, nI_1]
    · intro j hjk
      by_cases e : j = k
      · subst e
        refine ⟨?_, ?_, ?_, ?_, ?_, ?_⟩
        · simp (disch := omega) only [upd_ne, upd_eq]; exact hG
        · simp (disch := omega) only [upd_ne, upd_eq]
          exact (q2 0 (by omega)).trans g0
        · simp (disch := omega) only [upd_ne, upd_eq]
          exact (q2 1 (by omega)).trans g1
        · simp (disch := omega) only [upd_ne, upd_eq]
          exact (q2 2 (by omega)).trans g2
        · simp (disch := omega) only [upd_ne, upd_eq]
          exact (q2 3 (by omega)).trans g3
        · simp (disch := omega) only [upd_ne, upd_eq]
          exact (q2 4 (by omega)).trans g4
      · obtain ⟨hg, k0, k1, k2, k3, k4⟩ := hj j (by omega)
        refine ⟨?_, ?_, ?_, ?_, ?_, ?_⟩
        · simp (disch := omega) only [upd_ne]; exact hg
        · simp (disch := omega) only [upd_ne]
          exact (z2 _ (by omega)).trans k0
        · simp (disch := omega) only [upd_ne]
          exact (z2 _ (by omega)).trans k1
        · simp (disch := omega) only [upd_ne]
          exact (z2 _ (by omega)).trans k2
        · simp (disch := omega) only [upd_ne]
          exact (z2 _ (by omega)).trans k3
        · simp (disch := omega) only [upd_ne]
          exact (z2 _ (by omega)).trans k4
    · intro i hi
      rw [upd_ne (by omega), z2 i (by omega)]
