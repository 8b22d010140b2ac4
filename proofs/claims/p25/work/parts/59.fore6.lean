/-! 59: foretold: what is needed; that all ends (class) -/
theorem lt {S R : Type} (F : Nat → S → Nat → Option R) (N : Nat) (stop : ∀ n s, ∃ r, F (n + 1) s N = some r)
    (step : ∀ n s c, c < N → (∃ r, F (n + 1) s c = some r) ∨ ∃ s', F (n + 1) s c = F n s' (c + 1)) (n : Nat) (s : S) (c : Nat) (hc : c ≤ N) (hn : N < n + c) : ∃ r, F n s c = some r := by
  obtain ⟨r, e, -⟩ := lp F N (fun _ _ => True) (fun _ => True) (fun n s _ => by
      obtain ⟨r, e⟩ := stop n s
      exact ⟨r, e, True.intro⟩)
    (fun n s c hc _ => by
      rcases step n s c hc with ⟨r, e⟩ | ⟨s', e⟩
      · exact Or.inl ⟨r, e, True.intro⟩
      · exact Or.inr ⟨s', True.intro, e⟩)
    (N - c) n s c (by omega) (by omega) True.intro
  exact ⟨r, e⟩
def nd (v : Nat → Nat) : Nat → Nat → Nat
  | 0, a => a
  | k + 1, a => nd v k (if a.testBit k then a ||| v k else a)
theorem tb_f {a n c : Nat} (ha : a < 2 ^ n) (hc : n ≤ c) : a.testBit c = false := Nat.testBit_lt_two_pow (Nat.lt_of_lt_of_le ha (Nat.pow_le_pow_right (by omega) hc))
theorem nd_lt {v : Nat → Nat} {n : Nat} (hv : ∀ k, k < n → v k < 2 ^ n) : ∀ k a, a < 2 ^ n → nd v k a < 2 ^ n
  | 0, a, h => h
  | k + 1, a, h => by
    show nd v k (if a.testBit k then a ||| v k else a) < 2 ^ n
    refine nd_lt hv k _ ?_
    split
    · rename_i hb
      by_cases hk : k < n
      · exact Nat.or_lt_two_pow h (hv k hk)
      · rw [tb_f h (by omega)] at hb
        exact absurd hb (by decide)
    · exact h
theorem nd_cut {v : Nat → Nat} {n : Nat} : ∀ m a, a < 2 ^ n → nd v (n + m) a = nd v n a
  | 0, a, h => rfl
  | m + 1, a, h => by
    show nd v (n + m) (if a.testBit (n + m) then a ||| v (n + m) else a) = nd v n a
    rw [tb_f h (by omega), if_neg (by decide)]
    exact nd_cut m a h
/-- what bars one among the tied, as a number -/
noncomputable def vb (bd : Nat → Int32) (x k : Nat) : Nat := (bd k &&& nI x).toNatClampNeg
theorem vb_eq {n : Nat} {kd hd bd pt : Nat → Int32} (hC : KC n kd hd bd pt) {x : Nat} (hx : x < 2 ^ n) {k : Nat} (hk : k < n) : bd k &&& nI x = nI (vb bd x k) ∧ vb bd x k < 2 ^ n ∧ vb bd x k < 2 ^ k := by
  obtain ⟨-, -, ⟨b, hb, e⟩, -⟩ := hC.2 k hk
  have hn := hC.1
  have h8 : b &&& x < 2 ^ n := Nat.lt_of_le_of_lt Nat.and_le_right hx
  have h9 : b &&& x < 2 ^ k := Nat.lt_of_le_of_lt Nat.and_le_left hb
  have p := p8 hn
  unfold vb
  rw [e, kb_and, nI_clamp (by omega)]
  exact ⟨rfl, h8, h9⟩
theorem s_need6 {n : Nat} {kd hd bd pt : Nat → Int32} (hC : KC n kd hd bd pt) {x : Nat} (hx : x < 2 ^ n) : ∀ k fuel a, k ≤ 8 → k < fuel → a < 2 ^ n → fl_X4_neededFor_10 fuel bd (nI x) (nI a) (nI k + (-1 : Int32)) = some (nI (nd (vb bd x) k a))
  | k, 0, a, _, h, _ => absurd h (by omega)
  | 0, f + 1, a, _, _, _ => by
    rw [fl_X4_neededFor_10, if_pos (by decide)]
    rfl
  | k + 1, f + 1, a, hk, hf, ha => by
    have p := p8 hC.1
    rw [fl_X4_neededFor_10, pk_m1, if_neg (nI_pos (by omega))]
    show _ = some (nI (nd (vb bd x) k (if a.testBit k then a ||| vb bd x k else a)))
    cases ht : a.testBit k
    · rw [if_pos (h6f (by omega) (by omega) ht), if_neg (by decide)]
      exact s_need6 hC hx k f a (by omega) (by omega) ha
    · have hkn : k < n := by
        by_cases h : k < n
        · exact h
        · rw [tb_f ha (by omega)] at ht
          exact absurd ht (by decide)
      obtain ⟨e1, e2, -⟩ := vb_eq hC hx hkn
      rw [if_neg (h6t (by omega) (by omega) ht), if_neg (nI_in (by omega) (by decide)), nI_clamp (by omega), e1, kb_or, if_pos rfl]
      exact s_need6 hC hx k f _ (by omega) (by omega) (Nat.or_lt_two_pow ha e2)
theorem s_need7 {n : Nat} {kd hd bd pt w : Nat → Int32} (hC : KC n kd hd bd pt) (hW : KW n kd hd bd pt w) {x : Nat} (hx : x < 2 ^ n) (h2 : w 2 = nI x) : ∀ k fuel a, k ≤ n → k < fuel → a < 2 ^ n → fl_X7_needsOf_18 fuel w (nI a) (nI k + (-1 : Int32)) = some (nI (nd (vb bd x) k a))
  | k, 0, a, _, h, _ => absurd h (by omega)
  | 0, f + 1, a, _, _, _ => by
    rw [fl_X7_needsOf_18, if_pos (by decide)]
    rfl
  | k + 1, f + 1, a, hk, hf, ha => by
    have p := p8 hC.1
    have hn := hC.1
    rw [fl_X7_needsOf_18, pk_m1, if_neg (nI_pos (by omega))]
    show _ = some (nI (nd (vb bd x) k (if a.testBit k then a ||| vb bd x k else a)))
    cases ht : a.testBit k
    · rw [if_pos (h7f (by omega) (by omega) ht), if_neg (by decide), or0]
      exact s_need7 hC hW hx h2 k f a (by omega) (by omega) ha
    · obtain ⟨e1, e2, -⟩ := vb_eq hC hx (show k < n by omega)
      rw [if_neg (h7t (by omega) (by omega) ht), c22, if_neg (nI_in (by omega) (by decide)), nI_clamp (by omega), h2, (hW.2 k (by omega)).2.2.1, e1, kb_or, if_pos rfl]
      exact s_need7 hC hW hx h2 k f _ (by omega) (by omega) (Nat.or_lt_two_pow ha e2)
theorem s_needs6 {n : Nat} {kd hd bd pt : Nat → Int32} (hC : KC n kd hd bd pt) {x : Nat} (hx : x < 2 ^ n) (s : Nat) : f_X4_neededFor bd (nI x) (nI s) = some (nI (nd (vb bd x) 8 (s &&& x))) := by
  unfold f_X4_neededFor
  rw [kb_and]
  exact s_need6 hC hx 8 300 (s &&& x) (by omega) (by omega) (Nat.lt_of_le_of_lt Nat.and_le_right hx)
theorem s_needs7 {n : Nat} {kd hd bd pt w : Nat → Int32} (hC : KC n kd hd bd pt) (hW : KW n kd hd bd pt w) {x : Nat} (hx : x < 2 ^ n) (h2 : w 2 = nI x) (s : Nat) : f_X7_needsOf w (nI s) = some (nI (nd (vb bd x) 8 (s &&& x))) := by
  unfold f_X7_needsOf
  have hn := hC.1
  have ha : s &&& x < 2 ^ n := Nat.lt_of_le_of_lt Nat.and_le_right hx
  rw [h2, kb_and, hW.1, Int32.sub_eq_add_neg]
  have e := s_need7 hC hW hx h2 n 300 (s &&& x) (by omega) (by omega) ha
  have c := nd_cut (v := vb bd x) (n := n) (8 - n) (s &&& x) ha
  rw [show n + (8 - n) = 8 by omega] at c
  rw [c]
  exact e
theorem ko_needs {kd hd bd pt pn w : Nat → Int32} {sz ps t wars wet day drawn : Int32} (H : KR kd hd bd pt sz pn ps t wars wet day drawn w) (a1 : Int32) :
    ∃ q1 q2, f_X6_needs bd sz t a1 = some q1 ∧ f_X7_needs w a1 = some q2 ∧ q1 = q2 := by
  obtain ⟨n, k, rfl, rfl, hC, hW, hG, hH, hP⟩ := H
  have hn := hC.1
  obtain ⟨⟨x, hx, rfl⟩, gw, gd, gr⟩ := hG
  unfold f_X6_needs f_X7_needs
  rcases s_isCl hn hW.1 a1 with ⟨y1, y2⟩ | ⟨c, hc, rfl, y1, y2⟩
  · rw [if_pos y1, if_pos y2]; exact ⟨_, _, rfl, rfl, rfl⟩
  rw [if_neg y1, if_neg y2, kb_bt c (by omega), s_needs6 hC hx, s_needs7 hC hW hx hH.2.2.1]
  exact ⟨_, _, rfl, rfl, rfl⟩
theorem bcnt : ∀ a, a < 256 → f_X7_bits (nI a) = some (f_J6_bitCount (nI a)) := by decide +kernel
theorem ko_frees {kd hd bd pt pn w : Nat → Int32} {sz ps t wars wet day drawn : Int32} (H : KR kd hd bd pt sz pn ps t wars wet day drawn w) (a1 a2 : Int32) :
    ∃ q1 q2, f_X6_frees bd pt sz t a1 a2 = some q1 ∧ f_X7_frees w a1 a2 = some q2 ∧ q1 = q2 := by
  obtain ⟨n, k, rfl, rfl, hC, hW, hG, hH, hP⟩ := H
  have hn := hC.1
  obtain ⟨⟨x, hx, rfl⟩, gw, gd, gr⟩ := hG
  unfold f_X6_frees f_X7_frees f_X6_isParty
  rw [kb_in7, kb_in7]
  by_cases c1 : f_X6_isWithin a1 (0 : Int32) (3 : Int32) = 0
  · rw [if_pos c1, if_pos c1]; exact ⟨_, _, rfl, rfl, rfl⟩
  rw [if_neg c1, if_neg c1]
  by_cases c2 : f_X6_isWithin a2 (0 : Int32) (1 : Int32) = 0
  · rw [if_pos c2, if_pos c2]; exact ⟨_, _, rfl, rfl, rfl⟩
  rw [if_neg c2, if_neg c2, s_owed6 hn, s_owed7 hn hW]
  dsimp only
  rw [s_needs6 hC hx, s_needs7 hC hW hx hH.2.2.1]
  dsimp only
  have hl : nd (vb bd x) 8 (ng (fun c => decide (pt c = a1)) n &&& x) < 256 := Nat.lt_of_lt_of_le (nd_lt (fun k hk => (vb_eq hC hx hk).2.1) 8 _ (Nat.lt_of_le_of_lt Nat.and_le_right hx)) (p8 hn)
  rw [bcnt _ hl]
  by_cases d0 : a2 = 0
  · simp only [if_pos d0]; exact ⟨_, _, rfl, rfl, rfl⟩
  simp only [if_neg d0]
  exact ⟨_, _, rfl, rfl, rfl⟩
theorem t_firmest {n : Nat} {kd hd bd pt : Nat → Int32} (hC : KC n kd hd bd pt) {x : Nat} (hx : x < 2 ^ n) (wet day : Int32) {c : Nat} (hc : c < n) : ∃ r, f_X4_firmestUpTo kd hd bd (nI x) wet day (nI c) = some r := by
  unfold f_X4_firmestUpTo
  have hn := hC.1
  rw [kb_bt c (by omega), s_needs6 hC hx]
  dsimp only
  refine lt (fun m s v => fl_X4_firmestUpTo_13 m kd hd bd (nI x) wet day (nI (nd (vb bd x) 8 (2 ^ c &&& x))) s (nI v)) 8 ?_ ?_ 300 0 0 (by omega) (by omega)
  · intro m s
    refine ⟨s, ?_⟩
    show fl_X4_firmestUpTo_13 (m + 1) kd hd bd (nI x) wet day _ s (nI 8) = some s
    rw [fl_X4_firmestUpTo_13, if_pos (by decide)]
  · intro m s v hv
    right
    show ∃ s', fl_X4_firmestUpTo_13 (m + 1) kd hd bd (nI x) wet day _ s (nI v) = fl_X4_firmestUpTo_13 m kd hd bd (nI x) wet day _ s' (nI (v + 1))
    rw [fl_X4_firmestUpTo_13, if_neg (kb8 hv), s_firm6 kd hd wet day hv, nI_1]
    dsimp only
    split
    · exact ⟨_, rfl⟩
    · exact ⟨_, rfl⟩
theorem t_deepA (fd : Nat → Int32) (a : Int32) : ∃ r, f_X1_deepestAmong fd a = some r := by
  refine lt (fun m s v => fl_X1_deepestAmong_4 m fd a s (nI v)) 8 ?_ ?_ 300 0 0 (by omega) (by omega)
  · intro m s
    refine ⟨s, ?_⟩
    show fl_X1_deepestAmong_4 (m + 1) fd a s (nI 8) = some s
    rw [fl_X1_deepestAmong_4, if_pos (by decide)]
  · intro m s v hv
    right
    show ∃ s', fl_X1_deepestAmong_4 (m + 1) fd a s (nI v) = fl_X1_deepestAmong_4 m fd a s' (nI (v + 1))
    rw [fl_X1_deepestAmong_4, if_neg (kb8 hv), if_neg (nI_in hv (by decide)), nI_1]
    split
    · exact ⟨_, rfl⟩
    · exact ⟨_, rfl⟩
theorem t_fillD (bd : Nat → Int32) (t : Int32) (fd : Nat → Int32) : ∃ r, f_X1_fillDepths bd t fd = some r := by
  refine lt (fun m s v => fl_X1_fillDepths_2 m bd t s (nI v)) 8 ?_ ?_ 300 fd 0 (by omega) (by omega)
  · intro m s
    refine ⟨s, ?_⟩
    show fl_X1_fillDepths_2 (m + 1) bd t s (nI 8) = some s
    rw [fl_X1_fillDepths_2, if_pos (by decide)]
  · intro m s v hv
    right
    show ∃ s', fl_X1_fillDepths_2 (m + 1) bd t s (nI v) = fl_X1_fillDepths_2 m bd t s' (nI (v + 1))
    have ix : ¬ (nI v < 0 ∨ 8 ≤ (nI v).toNatClampNeg) := nI_in hv (by decide)
    obtain ⟨r, e⟩ := t_deepA s (bd (nI v).toNatClampNeg &&& t)
    rw [fl_X1_fillDepths_2, if_neg (kb8 hv), e, nI_1]
    simp only [if_neg ix]
    split
    · exact ⟨_, rfl⟩
    · exact ⟨_, rfl⟩
theorem t_depthOf (bd : Nat → Int32) (t : Int32) (fd : Nat → Int32) {c : Nat} (hc : c < 8) : ∃ r, f_X1_depthOf bd t fd (nI c) = some r := by
  obtain ⟨r, e⟩ := t_fillD bd t fd
  unfold f_X1_depthOf
  rw [e]
  dsimp only
  rw [if_neg (nI_in hc (by decide))]
  exact ⟨_, rfl⟩
theorem t_pulls6 {kd hd bd pt pn w : Nat → Int32} {sz ps t wars wet day drawn : Int32} (H : KR kd hd bd pt sz pn ps t wars wet day drawn w) (fd : Nat → Int32) (a1 a2 : Int32) : ∃ q, f_X6_pulls kd hd bd sz t wet day fd a1 a2 = some q := by
  obtain ⟨n, k, rfl, rfl, hC, hW, hG, hH, hP⟩ := H
  have hn := hC.1
  obtain ⟨⟨x, hx, rfl⟩, gw, gd, gr⟩ := hG
  unfold f_X6_pulls
  rcases s_isCl hn hW.1 a1 with ⟨y1, y2⟩ | ⟨c, hc, rfl, y1, y2⟩
  · rw [if_pos y1]; exact ⟨_, rfl⟩
  rw [if_neg y1]
  obtain ⟨r1, e1⟩ := t_firmest hC hx wet day hc
  obtain ⟨r2, e2⟩ := t_depthOf bd (nI x) fd (c := c) (by omega)
  rw [e1, e2]
  dsimp only
  repeat' split
  all_goals exact ⟨_, rfl⟩
theorem t_force6 {kd hd bd pt pn w : Nat → Int32} {sz ps t wars wet day drawn : Int32} (H : KR kd hd bd pt sz pn ps t wars wet day drawn w) (fd : Nat → Int32) (a1 a2 : Int32) : ∃ q, f_X6_force kd hd bd sz t wet day fd a1 a2 = some q := by
  obtain ⟨n, k, rfl, rfl, hC, hW, hG, hH, hP⟩ := H
  have hn := hC.1
  obtain ⟨⟨x, hx, rfl⟩, gw, gd, gr⟩ := hG
  unfold f_X6_force
  rcases s_isCl hn hW.1 a1 with ⟨y1, y2⟩ | ⟨c, hc, rfl, y1, y2⟩
  · rw [if_pos y1]; exact ⟨_, rfl⟩
  rw [if_neg y1]
  obtain ⟨r1, e1⟩ := t_firmest hC hx wet day hc
  obtain ⟨r2, e2⟩ := t_depthOf bd (nI x) fd (c := c) (by omega)
  rw [e1, e2]
  dsimp only
  repeat' split
  all_goals exact ⟨_, rfl⟩
theorem t_deep6 (bd : Nat → Int32) (t : Int32) (fd : Nat → Int32) : ∃ q, f_X6_deep bd t fd = some q := by
  unfold f_X6_deep f_X1_deepest
  obtain ⟨r, e⟩ := t_fillD bd t fd
  rw [e]
  dsimp only
  have h : ∃ q, fl_X1_deepest_9 300 bd t r (0 : Int32) (0 : Int32) = some q := by
    refine lt (fun m s v => fl_X1_deepest_9 m bd t r s (nI v)) 8 ?_ ?_ 300 0 0 (by omega) (by omega)
    · intro m s
      refine ⟨(s, r), ?_⟩
      show fl_X1_deepest_9 (m + 1) bd t r s (nI 8) = some (s, r)
      rw [fl_X1_deepest_9, if_pos (by decide)]
    · intro m s v hv
      right
      show ∃ s', fl_X1_deepest_9 (m + 1) bd t r s (nI v) = fl_X1_deepest_9 m bd t r s' (nI (v + 1))
      rw [fl_X1_deepest_9, if_neg (kb8 hv), if_neg (nI_in hv (by decide)), nI_1]
      exact ⟨_, rfl⟩
  obtain ⟨q, eq⟩ := h
  rw [eq]
  exact ⟨_, rfl⟩
theorem t_fillB (bd : Nat → Int32) (t : Int32) (fb : Nat → Int32) : ∃ r, f_X1_fillBars bd t fb = some r := by
  refine lt (fun m s v => fl_X1_fillBars_2 m bd t s (nI v)) 8 ?_ ?_ 300 fb 0 (by omega) (by omega)
  · intro m s
    refine ⟨s, ?_⟩
    show fl_X1_fillBars_2 (m + 1) bd t s (nI 8) = some s
    rw [fl_X1_fillBars_2, if_pos (by decide)]
  · intro m s v hv
    right
    show ∃ s', fl_X1_fillBars_2 (m + 1) bd t s (nI v) = fl_X1_fillBars_2 m bd t s' (nI (v + 1))
    have ix : ¬ (nI v < 0 ∨ 8 ≤ (nI v).toNatClampNeg) := nI_in hv (by decide)
    rw [fl_X1_fillBars_2, if_neg (kb8 hv), if_neg ix, if_neg ix, nI_1]
    exact ⟨_, rfl⟩
theorem sd2 {s : Nat} (hs : s < 256) {c : Nat} (hc : c < 8) : nI s &&& (((1 : Int32) <<< (nI c &&& (31 : Int32))) ^^^ (-1 : Int32)) = nI (sd s (2 ^ c)) := by
  rw [kb_bt c (by omega)]
  exact kb_dif s hs _ (Nat.pow_lt_pow_right (n := 8) (by omega) hc)
theorem t_waysTo (fb fw : Nat → Int32) {s : Nat} (hs : s < 256) : ∃ r, f_X1_waysTo fb fw (nI s) = some r := by
  refine lt (fun m a v => fl_X1_waysTo_4 m fb fw (nI s) a (nI v)) 8 ?_ ?_ 300 0 0 (by omega) (by omega)
  · intro m a
    refine ⟨a, ?_⟩
    show fl_X1_waysTo_4 (m + 1) fb fw (nI s) a (nI 8) = some a
    rw [fl_X1_waysTo_4, if_pos (by decide)]
  · intro m a v hv
    right
    show ∃ s', fl_X1_waysTo_4 (m + 1) fb fw (nI s) a (nI v) = fl_X1_waysTo_4 m fb fw (nI s) s' (nI (v + 1))
    have hl : sd s (2 ^ v) < 256 := sd_lt hs
    rw [fl_X1_waysTo_4, if_neg (kb8 hv), if_neg (nI_in hv (by decide)), sd2 hs hv, if_neg (nI_in hl (by decide)), nI_1]
    repeat' split
    all_goals exact ⟨_, rfl⟩
theorem t_countW (fb fw : Nat → Int32) {x : Nat} (hx : x < 256) : ∃ r, f_X1_countWays fb fw (nI x) = some r := by
  unfold f_X1_countWays
  have e : nI x &&& (255 : Int32) = nI x := by
    have h := pk_andN (n := x) (m := (255 : Int32)) (by omega) 8 (by decide)
    rw [h, Nat.mod_eq_of_lt (by omega)]
  rw [e]
  refine lt (fun m s v => fl_X1_countWays_19 m fb s (nI x) (nI v)) (x + 1) ?_ ?_ 300 (upd fw 0 (1 : Int32)) 1 (by omega) (by omega)
  · intro m s
    refine ⟨(s x, s), ?_⟩
    show fl_X1_countWays_19 (m + 1) fb s (nI x) (nI (x + 1)) = some (s x, s)
    rw [fl_X1_countWays_19, if_pos (nI_lt (by omega) (by omega)), if_neg (nI_in hx (by decide)), nI_clamp (by omega)]
  · intro m s v hv
    right
    show ∃ s', fl_X1_countWays_19 (m + 1) fb s (nI x) (nI v) = fl_X1_countWays_19 m fb s' (nI x) (nI (v + 1))
    obtain ⟨r, er⟩ := t_waysTo fb s (s := v) (by omega)
    rw [fl_X1_countWays_19, if_neg (nI_nlt (by omega) (by omega)), er, nI_1]
    dsimp only
    rw [if_neg (nI_in (by omega) (by decide))]
    split
    · exact ⟨_, rfl⟩
    · exact ⟨_, rfl⟩
theorem t_nthOf (a k : Int32) : ∃ r, f_X6_nthOf a k = some r := by
  refine lt (fun m s v => fl_X6_nthOf_4 m a s (nI v)) 8 ?_ ?_ 300 k 0 (by omega) (by omega)
  · intro m s
    refine ⟨-4, ?_⟩
    show fl_X6_nthOf_4 (m + 1) a s (nI 8) = some (-4)
    rw [fl_X6_nthOf_4, if_pos (by decide)]
  · intro m s v hv
    show (∃ r, fl_X6_nthOf_4 (m + 1) a s (nI v) = some r) ∨ ∃ s', fl_X6_nthOf_4 (m + 1) a s (nI v) = fl_X6_nthOf_4 m a s' (nI (v + 1))
    rw [fl_X6_nthOf_4, if_neg (kb8 hv), nI_1]
    split
    · exact Or.inr ⟨_, rfl⟩
    · split
      · exact Or.inl ⟨_, rfl⟩
      · exact Or.inr ⟨_, rfl⟩
theorem t_countO (bd : Nat → Int32) {x : Nat} (hx : x < 256) (fb fw : Nat → Int32) : ∃ r, f_X1_countOrders bd (nI x) fb fw = some r := by
  unfold f_X1_countOrders
  obtain ⟨r, e⟩ := t_fillB bd (nI x) fb
  obtain ⟨r2, e2⟩ := t_countW r fw hx
  rw [e]
  dsimp only
  rw [e2]
  exact ⟨_, rfl⟩
theorem t_orders6 {kd hd bd pt pn w : Nat → Int32} {sz ps t wars wet day drawn : Int32} (H : KR kd hd bd pt sz pn ps t wars wet day drawn w) (fb fw : Nat → Int32) (a1 : Int32) : ∃ q, f_X6_orders bd t fb fw a1 = some q := by
  obtain ⟨n, k, rfl, rfl, hC, hW, hG, hH, hP⟩ := H
  obtain ⟨⟨x, hx, rfl⟩, gw, gd, gr⟩ := hG
  unfold f_X6_orders
  obtain ⟨r, e⟩ := t_countO bd (Nat.lt_of_lt_of_le hx (p8 hC.1)) fb fw
  obtain ⟨r2, e2⟩ := t_nthOf (nI x) a1
  rw [e, e2]
  dsimp only
  repeat' split
  all_goals exact ⟨_, rfl⟩
theorem t_ahead6 {kd hd bd pt pn w : Nat → Int32} {sz ps t wars wet day drawn : Int32} (H : KR kd hd bd pt sz pn ps t wars wet day drawn w) (fb fw : Nat → Int32) (a1 a2 a3 : Int32) : ∃ q, f_X6_ahead bd sz t fb fw a1 a2 a3 = some q := by
  obtain ⟨n, k, rfl, rfl, hC, hW, hG, hH, hP⟩ := H
  have hn := hC.1
  obtain ⟨⟨x, hx, rfl⟩, gw, gd, gr⟩ := hG
  have hx8 := Nat.lt_of_lt_of_le hx (p8 hC.1)
  unfold f_X6_ahead
  rcases s_isCl hn hW.1 a1 with ⟨y1, y2⟩ | ⟨c, hc, rfl, y1, y2⟩
  · rw [if_pos y1]; exact ⟨_, rfl⟩
  rw [if_neg y1]
  rcases s_isCl hn hW.1 a2 with ⟨y1, y2⟩ | ⟨d, hd', rfl, y1, y2⟩
  · rw [if_pos y1]; exact ⟨_, rfl⟩
  rw [if_neg y1]
  obtain ⟨r, e⟩ := t_countO bd hx8 fb fw
  obtain ⟨r2, e2⟩ := t_fillB bd (nI x) fb
  have ix : ¬ (nI d < 0 ∨ 8 ≤ (nI d).toNatClampNeg) := nI_in (by omega) (by decide)
  unfold f_X1_countOrdersWith
  rw [e, e2]
  dsimp only
  obtain ⟨r3, e3⟩ := t_countW (upd r2 (nI d).toNatClampNeg ((r2 (nI d).toNatClampNeg) ||| ((1 : Int32) <<< (nI c &&& (31 : Int32))))) fw hx8
  rw [if_neg ix, if_neg ix, e3]
  dsimp only
  repeat' split
  all_goals exact ⟨_, rfl⟩
theorem t_game6 {kd hd bd pt pn w : Nat → Int32} {sz ps t wars wet day drawn : Int32} (H : KR kd hd bd pt sz pn ps t wars wet day drawn w) (a1 a2 : Int32) : ∃ q, f_X6_game bd t a1 a2 = some q := by
  obtain ⟨n, k, rfl, rfl, hC, hW, hG, hH, hP⟩ := H
  obtain ⟨⟨x, hx, rfl⟩, gw, gd, gr⟩ := hG
  have hx8 := Nat.lt_of_lt_of_le hx (p8 hC.1)
  unfold f_X6_game
  obtain ⟨r, e⟩ := t_nthOf (nI (ng (pfree bd x) 8)) 0
  rw [s_free6 bd hx8]
  dsimp only
  rw [e]
  dsimp only
  repeat' split
  all_goals exact ⟨_, rfl⟩
theorem t_cuts6 {kd hd bd pt pn w : Nat → Int32} {sz ps t wars wet day drawn : Int32} (H : KR kd hd bd pt sz pn ps t wars wet day drawn w) (a1 a2 a3 : Int32) : ∃ q, f_X6_cuts kd hd bd sz t wet day a1 a2 a3 = some q := by
  obtain ⟨n, k, rfl, rfl, hC, hW, hG, hH, hP⟩ := H
  have hn := hC.1
  unfold f_X6_cuts
  rcases s_isCl hn hW.1 a1 with ⟨y1, y2⟩ | ⟨c, hc, rfl, y1, y2⟩
  · rw [if_pos y1]; exact ⟨_, rfl⟩
  have ix : ¬ (nI c < 0 ∨ 8 ≤ (nI c).toNatClampNeg) := nI_in (by omega) (by decide)
  rw [if_neg y1, s_firm6 kd hd wet day (by omega), if_neg ix]
  dsimp only
  repeat' split
  all_goals exact ⟨_, rfl⟩
