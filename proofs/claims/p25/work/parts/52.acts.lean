/-! 52: what is done to the rope, class and reference side by side -/
theorem KW_of {n : Nat} {kd hd bd pt w w' : Nat → Int32} (hn : n ≤ 8) (h : KW n kd hd bd pt w) (e : ∀ i, 5 ≤ i → i < 38 → w' i = w i) : KW n kd hd bd pt w' :=
  ⟨(e 5 (by omega) (by omega)).trans h.1, fun c hc => by
    obtain ⟨a, b, d, f⟩ := h.2 c hc
    exact ⟨(e _ (by omega) (by omega)).trans a, (e _ (by omega) (by omega)).trans b, (e _ (by omega) (by omega)).trans d, (e _ (by omega) (by omega)).trans f⟩⟩
theorem KP_of {n k : Nat} {pn w w' : Nat → Int32} (h : KP n k pn w) (e : ∀ i, 38 ≤ i → i < 79 → w' i = w i) : KP n k pn w' :=
  ⟨h.1, (e 38 (by omega) (by omega)).trans h.2.1, fun j hj => by
    have hk := h.1
    obtain ⟨g, a, b, d, f, x⟩ := h.2.2 j hj
    exact ⟨g, (e _ (by omega) (by omega)).trans a, (e _ (by omega) (by omega)).trans b, (e _ (by omega) (by omega)).trans d, (e _ (by omega) (by omega)).trans f, (e _ (by omega) (by omega)).trans x⟩⟩
theorem KR_mk {n k : Nat} {kd hd bd pt pn w : Nat → Int32} {t wars wet day drawn : Int32} (hC : KC n kd hd bd pt) (hW : KW n kd hd bd pt w) (hG : KG n t wet day drawn) (hH : KH w 0 t wars wet day drawn) (hP : KP n k pn w) : KR kd hd bd pt (nI n) pn (nI k) t wars wet day drawn w := ⟨n, k, rfl, rfl, hC, hW, hG, hH, hP⟩
theorem tw {n : Nat} (h : n ≤ 8) : ((1 : Int32) <<< (nI n &&& (31 : Int32))) - (1 : Int32) = nI (2 ^ n - 1) := by
  have hh : ∀ n : Nat, n < 9 → ((1 : Int32) <<< (nI n &&& (31 : Int32))) - (1 : Int32) = nI (2 ^ n - 1) := by decide
  exact hh n (by omega)
theorem ko_clause {kd hd bd pt pn w : Nat → Int32} {sz ps t wars wet day drawn : Int32} (H : KR kd hd bd pt sz pn ps t wars wet day drawn w) (a1 a2 a3 a4 : Int32) :
    ∃ q1 q2, f_X6_clause kd hd bd pt sz ps t a1 a2 a3 a4 = some q1 ∧ f_X7_clause w a1 a2 a3 a4 = some q2 ∧ q1.1 = q2.1 ∧ KR q1.2.1 q1.2.2.1 q1.2.2.2.1 q1.2.2.2.2.1 q1.2.2.2.2.2.1 pn q1.2.2.2.2.2.2.1 q1.2.2.2.2.2.2.2 wars wet day drawn q2.2 := by
  have H0 := H
  obtain ⟨n, k, rfl, rfl, hC, hW, hG, hH, hP⟩ := H
  have hn := hC.1
  unfold f_X6_clause f_X7_clause f_X6_isParty
  rw [kb_in7, kb_in7, kb_in7, kb_in7, hW.1, tw hn]
  by_cases c1 : f_X6_isWithin a1 (0 : Int32) (4 : Int32) = 0
  · rw [if_pos c1, if_pos c1]; exact ⟨_, _, rfl, rfl, rfl, H0⟩
  rw [if_neg c1, if_neg c1]
  by_cases c2 : f_X6_isWithin a2 (1 : Int32) (20 : Int32) = 0
  · rw [if_pos c2, if_pos c2]; exact ⟨_, _, rfl, rfl, rfl, H0⟩
  rw [if_neg c2, if_neg c2]
  by_cases c3 : f_X6_isWithin a3 (0 : Int32) (nI (2 ^ n - 1)) = 0
  · rw [if_pos c3, if_pos c3]; exact ⟨_, _, rfl, rfl, rfl, H0⟩
  rw [if_neg c3, if_neg c3]
  by_cases c4 : f_X6_isWithin a4 (0 : Int32) (3 : Int32) = 0
  · rw [if_pos c4, if_pos c4]; exact ⟨_, _, rfl, rfl, rfl, H0⟩
  rw [if_neg c4, if_neg c4]
  by_cases h8 : n = 8
  · subst h8
    rw [if_neg (by decide), if_pos (by decide)]; exact ⟨_, _, rfl, rfl, rfl, H0⟩
  have l0 : ¬ nI n < 0 := nI_pos (by omega)
  have l8 : nI n < (8 : Int32) := nI_lt (b := 8) (by omega) (by decide)
  have ix : ¬ (nI n < 0 ∨ 8 ≤ (nI n).toNatClampNeg) := nI_in (by omega) (by decide)
  have e6 : f_X4_addClause kd hd bd pt (nI n) (nI k) t a1 a2 a3 a4 = some (nI n, upd kd n a1, upd hd n a2, upd bd n a3, upd pt n a4, nI (n + 1), 0, t ||| ((1 : Int32) <<< (nI n &&& (31 : Int32)))) := by
    unfold f_X4_addClause f_X0_add
    rw [if_neg l0, if_pos l8, if_neg ix, if_neg ix, if_neg ix, if_neg ix]
    dsimp only
    rw [if_neg l0, nI_clamp (by omega), nI_1]
  have e7 : ∃ w', f_X7_add (upd w 38 0) a1 a2 a3 a4 = some (nI n, w') ∧ w' 5 = nI (n + 1) ∧ w' 2 = (w 2 ||| ((1 : Int32) <<< (nI n &&& (31 : Int32)))) ∧ w' 0 = w 0 ∧ w' 1 = w 1 ∧ w' 3 = w 3 ∧ w' 4 = w 4 ∧ w' 38 = 0 ∧ w' (6 + n) = a1 ∧ w' (14 + n) = a2 ∧ w' (22 + n) = a3 ∧ w' (30 + n) = a4 ∧ ∀ c, c < n → w' (6 + c) = w (6 + c) ∧ w' (14 + c) = w (14 + c) ∧ w' (22 + c) = w (22 + c) ∧ w' (30 + c) = w (30 + c) := by
    unfold f_X7_add
    have h5 : (upd w 38 0) 5 = nI n := (upd_ne (by omega)).trans hW.1
    rw [h5, c6, c14, c22, c30, if_neg (nI_in (by omega) (by decide)), if_neg (nI_in (by omega) (by decide)), if_neg (nI_in (by omega) (by decide)), if_neg (nI_in (by omega) (by decide)), nI_clamp (n := 6 + n) (by omega), nI_clamp (n := 14 + n) (by omega), nI_clamp (n := 22 + n) (by omega), nI_clamp (n := 30 + n) (by omega)]
    refine ⟨_, rfl, ?_, ?_, ?_, ?_, ?_, ?_, ?_, ?_, ?_, ?_, ?_, ?_⟩
    · simp (disch := omega) only [upd_ne, upd_eq]; rw [hW.1, nI_1]
    · simp (disch := omega) only [upd_ne, upd_eq]
    · simp (disch := omega) only [upd_ne, upd_eq]
    · simp (disch := omega) only [upd_ne, upd_eq]
    · simp (disch := omega) only [upd_ne, upd_eq]
    · simp (disch := omega) only [upd_ne, upd_eq]
    · simp (disch := omega) only [upd_ne, upd_eq]
    · simp (disch := omega) only [upd_ne, upd_eq]
    · simp (disch := omega) only [upd_ne, upd_eq]
    · simp (disch := omega) only [upd_ne, upd_eq]
    · simp (disch := omega) only [upd_ne, upd_eq]
    · intro c hc
      simp (disch := omega) only [upd_ne, upd_eq]
      exact ⟨trivial, trivial, trivial, trivial⟩
  obtain ⟨w', e7, w5, w2, w0, w1, w3, w4, w38, v6, v14, v22, v30, vc⟩ := e7
  have hne : ¬ nI n = (8 : Int32) := fun h => h8 ((nI_eq (b := 8) (by omega) (by omega)).mp h)
  rw [if_pos l8, e6, if_neg hne, e7]
  refine ⟨_, _, rfl, rfl, rfl, ?_⟩
  obtain ⟨j1, -, hj1, rfl⟩ := kb_win (a := 0) (b := 4) (by omega) (by omega) c1
  obtain ⟨j2, hj2, hj2', rfl⟩ := kb_win (a := 1) (b := 20) (by omega) (by omega) c2
  have p2 : 2 ^ n ≤ 256 := p8 hn
  obtain ⟨j3, -, hj3, rfl⟩ := kb_win (a := 0) (b := 2 ^ n - 1) (by omega) (by omega) c3
  obtain ⟨j4, -, hj4, rfl⟩ := kb_win (a := 0) (b := 3) (by omega) (by omega) c4
  have p3 : 0 < 2 ^ n := Nat.two_pow_pos n
  obtain ⟨⟨x, hx, rfl⟩, gw, gd, gr⟩ := hG
  obtain ⟨z0, z1, z2, z3, z4⟩ := hH
  have et : nI x ||| ((1 : Int32) <<< (nI n &&& (31 : Int32))) = nI (x ||| 2 ^ n) := by rw [kb_bt n (by omega), kb_or]
  refine KR_mk (n := n + 1) (k := 0) ⟨by omega, ?_⟩ ⟨w5, ?_⟩ ⟨⟨x ||| 2 ^ n, ?_, et⟩, gw, gd, gr⟩ ⟨w0.trans z0, w1.trans z1, w2.trans (by rw [z2]), w3.trans z3, w4.trans z4⟩ ⟨by omega, w38, fun j h => absurd h (by omega)⟩
  · intro c hc
    by_cases e : c = n
    · subst e
      exact ⟨⟨j1, by omega, upd_eq⟩, ⟨j2, hj2, hj2', upd_eq⟩, ⟨j3, by omega, upd_eq⟩, ⟨j4, by omega, upd_eq⟩⟩
    · show (∃ k, k < 5 ∧ upd kd n _ c = nI k) ∧ (∃ h, 1 ≤ h ∧ h ≤ 20 ∧ upd hd n _ c = nI h) ∧ (∃ b, b < 2 ^ c ∧ upd bd n _ c = nI b) ∧ (∃ p, p < 4 ∧ upd pt n _ c = nI p)
      rw [upd_ne e, upd_ne e, upd_ne e, upd_ne e]
      exact hC.2 c (by omega)
  · intro c hc
    by_cases e : c = n
    · subst e
      exact ⟨v6.trans upd_eq.symm, v14.trans upd_eq.symm, v22.trans upd_eq.symm, v30.trans upd_eq.symm⟩
    · obtain ⟨y1, y2, y3, y4⟩ := vc c (by omega)
      obtain ⟨u1, u2, u3, u4⟩ := hW.2 c (by omega)
      show _ = upd kd n _ c ∧ _ = upd hd n _ c ∧ _ = upd bd n _ c ∧ _ = upd pt n _ c
      rw [upd_ne e, upd_ne e, upd_ne e, upd_ne e]
      exact ⟨y1.trans u1, y2.trans u2, y3.trans u3, y4.trans u4⟩
  · have h2 : 2 ^ n < 2 ^ (n + 1) := Nat.pow_lt_pow_right (by omega) (by omega)
    exact Nat.or_lt_two_pow (by omega) h2
theorem ko_of {kd hd bd pt pn w : Nat → Int32} {sz ps t wars wet day drawn : Int32} (H : KR kd hd bd pt sz pn ps t wars wet day drawn w) (a1 a2 : Int32) :
    ∃ q1 q2, f_X6_of kd hd bd pt sz t wet day a1 a2 = some q1 ∧ f_X7_of w a1 a2 = some q2 ∧ q1 = q2 := by
  obtain ⟨n, k, rfl, rfl, hC, hW, hG, hH, hP⟩ := H
  have hn := hC.1
  obtain ⟨⟨x, hx, rfl⟩, gw, gd, gr⟩ := hG
  obtain ⟨z0, z1, z2, z3, z4⟩ := hH
  have hx8 : x < 256 := Nat.lt_of_lt_of_le hx (p8 hn)
  unfold f_X6_of f_X7_of
  rcases s_isCl hn hW.1 a1 with ⟨y1, y2⟩ | ⟨c, hc, rfl, y1, y2⟩
  · rw [if_pos y1, if_pos y2]; exact ⟨_, _, rfl, rfl, rfl⟩
  rw [if_neg y1, if_neg y2]
  obtain ⟨w6, w14, w22, w30⟩ := hW.2 c hc
  have ix : ¬ (nI c < 0 ∨ 8 ≤ (nI c).toNatClampNeg) := nI_in (by omega) (by decide)
  have x6 : ¬ (nI (6 + c) < 0 ∨ 79 ≤ (nI (6 + c)).toNatClampNeg) := nI_in (by omega) (by decide)
  have x14 : ¬ (nI (14 + c) < 0 ∨ 79 ≤ (nI (14 + c)).toNatClampNeg) := nI_in (by omega) (by decide)
  have x22 : ¬ (nI (22 + c) < 0 ∨ 79 ≤ (nI (22 + c)).toNatClampNeg) := nI_in (by omega) (by decide)
  have x30 : ¬ (nI (30 + c) < 0 ∨ 79 ≤ (nI (30 + c)).toNatClampNeg) := nI_in (by omega) (by decide)
  rw [c6, c14, c22, c30]
  simp only [if_neg ix, if_neg x6, if_neg x14, if_neg x22, if_neg x30]
  rw [nI_clamp (n := c) (by omega), nI_clamp (n := 6 + c) (by omega), nI_clamp (n := 14 + c) (by omega), nI_clamp (n := 22 + c) (by omega), nI_clamp (n := 30 + c) (by omega), w6, w14, w22, w30, show w 2 = nI x from z2]
  by_cases d0 : a2 = 0
  · simp only [if_pos d0]; exact ⟨_, _, rfl, rfl, rfl⟩
  simp only [if_neg d0]
  by_cases d1 : a2 = 1
  · simp only [if_pos d1]; exact ⟨_, _, rfl, rfl, rfl⟩
  simp only [if_neg d1]
  by_cases d2 : a2 = 2
  · simp only [if_pos d2]; exact ⟨_, _, rfl, rfl, rfl⟩
  simp only [if_neg d2]
  by_cases d3 : a2 = 3
  · simp only [if_pos d3]; exact ⟨_, _, rfl, rfl, rfl⟩
  simp only [if_neg d3]
  by_cases d4 : a2 = 4
  · rw [if_pos d4, if_pos d4, kb_h7' x hx8 c (by omega), kb_h6 x hx8 c (by omega)]
    cases x.testBit c
    · exact ⟨_, _, rfl, rfl, rfl⟩
    · exact ⟨_, _, rfl, rfl, rfl⟩
  simp only [if_neg d4]
  by_cases d5 : a2 = 5
  · rw [if_pos d5, if_pos d5, s_free6 bd hx8, s_isFree w hx8 (by omega)]
    dsimp only
    have e : pfree (fun c => w (22 + c)) x c = pfree bd x c := by
      show (_ && decide ((w (22 + c) &&& nI x) = 0)) = (_ && decide ((bd c &&& nI x) = 0))
      rw [w22]
    rw [kb_h6 _ (ng_lt _ 8) c (by omega), ng_tb, decide_eq_true (by omega), Bool.true_and, e]
    cases pfree bd x c
    · exact ⟨_, _, rfl, rfl, rfl⟩
    · exact ⟨_, _, rfl, rfl, rfl⟩
  simp only [if_neg d5]
  by_cases d6 : a2 = 6
  · obtain ⟨⟨kk, hk, ek⟩, -⟩ := hC.2 c hc
    rw [if_pos d6, if_pos d6, s_firm6 _ _ _ _ (by omega), s_firm7 w (by omega), w6, w14, ek, s_firmBy w hk, show w 3 = wet from z3, show w 0 = day from z0]
    exact ⟨_, _, rfl, rfl, rfl⟩
  simp only [if_neg d6]
  exact ⟨_, _, rfl, rfl, rfl⟩
theorem s_owed6 {n : Nat} (hn : n ≤ 8) (pt : Nat → Int32) (a : Int32) : f_X0_owedBy pt (nI n) a = some (nI (ng (fun c => decide (pt c = a)) n)) := by
  unfold f_X0_owedBy
  refine lpo (fun m s c => fl_X0_owedBy_4 m pt (nI n) a s (nI c)) n _ (by omega) ?_ ?_ ?_
  · intro m s
    show fl_X0_owedBy_4 (m + 1) pt (nI n) a s (nI n) = some s
    rw [fl_X0_owedBy_4, if_pos (Int32.le_refl _)]
  · intro m s c hc hp
    show fl_X0_owedBy_4 (m + 1) pt (nI n) a s (nI c) = fl_X0_owedBy_4 m pt (nI n) a _ (nI (c + 1))
    rw [decide_eq_true_eq] at hp
    rw [fl_X0_owedBy_4, if_neg (nI_ge hc (by omega)), if_neg (kb8 (by omega)), if_neg (nI_in (by omega) (by decide)), nI_clamp (by omega), if_pos hp, nI_1]
  · intro m s c hc hp
    left
    show fl_X0_owedBy_4 (m + 1) pt (nI n) a s (nI c) = fl_X0_owedBy_4 m pt (nI n) a s (nI (c + 1))
    rw [decide_eq_false_iff_not] at hp
    rw [fl_X0_owedBy_4, if_neg (nI_ge hc (by omega)), if_neg (kb8 (by omega)), if_neg (nI_in (by omega) (by decide)), nI_clamp (by omega), if_neg hp, nI_1]
theorem s_owed7 {n : Nat} (hn : n ≤ 8) {kd hd bd pt w : Nat → Int32} (hW : KW n kd hd bd pt w) (a : Int32) : f_X7_owedBy w a = some (nI (ng (fun c => decide (pt c = a)) n)) := by
  unfold f_X7_owedBy
  refine lpo (fun m s c => fl_X7_owedBy_4 m w a s (nI c)) n _ (by omega) ?_ ?_ ?_
  · intro m s
    show fl_X7_owedBy_4 (m + 1) w a s (nI n) = some s
    rw [fl_X7_owedBy_4, hW.1, if_pos (Int32.le_refl _)]
  · intro m s c hc hp
    show fl_X7_owedBy_4 (m + 1) w a s (nI c) = fl_X7_owedBy_4 m w a _ (nI (c + 1))
    rw [decide_eq_true_eq] at hp
    rw [fl_X7_owedBy_4, hW.1, if_neg (nI_ge hc (by omega)), c30, if_neg (nI_in (by omega) (by decide)), nI_clamp (by omega), if_pos ((hW.2 c hc).2.2.2.trans hp), nI_1]
  · intro m s c hc hp
    right
    show fl_X7_owedBy_4 (m + 1) w a s (nI c) = fl_X7_owedBy_4 m w a (s ||| 0) (nI (c + 1))
    rw [decide_eq_false_iff_not] at hp
    rw [fl_X7_owedBy_4, hW.1, if_neg (nI_ge hc (by omega)), c30, if_neg (nI_in (by omega) (by decide)), nI_clamp (by omega), if_neg (fun h => hp ((hW.2 c hc).2.2.2.symm.trans h)), nI_1]
theorem ko_party {kd hd bd pt pn w : Nat → Int32} {sz ps t wars wet day drawn : Int32} (H : KR kd hd bd pt sz pn ps t wars wet day drawn w) (a1 a2 : Int32) :
    ∃ q1 q2, f_X6_party pt sz t a1 a2 = some q1 ∧ f_X7_party w a1 a2 = some q2 ∧ q1 = q2 := by
  obtain ⟨n, k, rfl, rfl, hC, hW, hG, hH, hP⟩ := H
  have hn := hC.1
  unfold f_X6_party f_X7_party f_X6_isParty
  rw [kb_in7, kb_in7]
  by_cases c1 : f_X6_isWithin a1 (0 : Int32) (3 : Int32) = 0
  · rw [if_pos c1, if_pos c1]; exact ⟨_, _, rfl, rfl, rfl⟩
  rw [if_neg c1, if_neg c1]
  by_cases c2 : f_X6_isWithin a2 (0 : Int32) (1 : Int32) = 0
  · rw [if_pos c2, if_pos c2]; exact ⟨_, _, rfl, rfl, rfl⟩
  rw [if_neg c2, if_neg c2, s_owed6 hn, s_owed7 hn hW, show w 2 = t from hH.2.2.1]
  dsimp only
  by_cases d0 : a2 = 0
  · simp only [if_pos d0]; exact ⟨_, _, rfl, rfl, rfl⟩
  simp only [if_neg d0]
  split
  · exact ⟨_, _, rfl, rfl, rfl⟩
  · exact ⟨_, _, rfl, rfl, rfl⟩
theorem ko_owe {kd hd bd pt pn w : Nat → Int32} {sz ps t wars wet day drawn : Int32} (H : KR kd hd bd pt sz pn ps t wars wet day drawn w) (a1 a2 : Int32) :
    ∃ q1 q2, f_X6_owe pt sz a1 a2 = some q1 ∧ f_X7_owe w a1 a2 = some q2 ∧ q1.1 = q2.1 ∧ KR kd hd bd q1.2 sz pn ps t wars wet day drawn q2.2 := by
  have H0 := H
  obtain ⟨n, k, rfl, rfl, hC, hW, hG, hH, hP⟩ := H
  have hn := hC.1
  unfold f_X6_owe f_X7_owe f_X6_isParty
  rw [kb_in7]
  rcases s_isCl hn hW.1 a1 with ⟨y1, y2⟩ | ⟨c, hc, rfl, y1, y2⟩
  · rw [if_pos y1, if_pos y2]; exact ⟨_, _, rfl, rfl, rfl, H0⟩
  rw [if_neg y1, if_neg y2]
  by_cases c1 : f_X6_isWithin a2 (0 : Int32) (3 : Int32) = 0
  · rw [if_pos c1, if_pos c1]; exact ⟨_, _, rfl, rfl, rfl, H0⟩
  have ix : ¬ (nI c < 0 ∨ 8 ≤ (nI c).toNatClampNeg) := nI_in (by omega) (by decide)
  rw [if_neg c1, if_neg c1, if_neg ix, if_neg ix, c30, if_neg (nI_in (by omega) (by decide)), if_neg (nI_in (by omega) (by decide)), nI_clamp (n := c) (by omega), nI_clamp (n := 30 + c) (by omega)]
  obtain ⟨w6, w14, w22, w30⟩ := hW.2 c hc
  obtain ⟨j, -, hj, rfl⟩ := kb_win (a := 0) (b := 3) (by omega) (by omega) c1
  refine ⟨_, _, rfl, rfl, w30.symm, ?_⟩
  dsimp only
  refine KR_mk ⟨hn, ?_⟩ ⟨(upd_ne (by omega)).trans hW.1, ?_⟩ hG ⟨(upd_ne (by omega)).trans hH.1, (upd_ne (by omega)).trans hH.2.1, (upd_ne (by omega)).trans hH.2.2.1, (upd_ne (by omega)).trans hH.2.2.2.1, (upd_ne (by omega)).trans hH.2.2.2.2⟩ (KP_of hP (fun i h1 h2 => upd_ne (by omega)))
  · intro e he
    obtain ⟨x1, x2, x3, x4⟩ := hC.2 e he
    refine ⟨x1, x2, x3, ?_⟩
    by_cases ee : e = c
    · subst ee; exact ⟨j, by omega, upd_eq⟩
    · show ∃ p, p < 4 ∧ upd pt c (nI j) e = nI p
      rw [upd_ne ee]; exact x4
  · intro e he
    obtain ⟨x1, x2, x3, x4⟩ := hW.2 e he
    refine ⟨(upd_ne (by omega)).trans x1, (upd_ne (by omega)).trans x2, (upd_ne (by omega)).trans x3, ?_⟩
    by_cases ee : e = c
    · subst ee; exact upd_eq.trans upd_eq.symm
    · exact (upd_ne (by omega)).trans (x4.trans (upd_ne ee).symm)
theorem ko_seed {kd hd bd pt pn w : Nat → Int32} {sz ps t wars wet day drawn : Int32} (H : KR kd hd bd pt sz pn ps t wars wet day drawn w) (a1 : Int32) :
    ∃ q1 q2, f_X6_seed drawn a1 = some q1 ∧ f_X7_seed w a1 = some q2 ∧ q1.1 = q2.1 ∧ KR kd hd bd pt sz pn ps t wars wet day q1.2 q2.2 := by
  have H0 := H
  obtain ⟨n, k, rfl, rfl, hC, hW, hG, hH, hP⟩ := H
  have hn := hC.1
  unfold f_X6_seed f_X7_seed
  by_cases c1 : (0 : Int32) ≤ a1
  · rw [if_pos c1, if_pos c1]
    refine ⟨_, _, rfl, rfl, hH.2.1.symm, ?_⟩
    dsimp only
    refine KR_mk hC (KW_of hn hW (fun i h1 h2 => upd_ne (by omega))) ⟨hG.1, hG.2.1, hG.2.2.1, Int32.not_lt.mpr c1⟩ ⟨(upd_ne (by omega)).trans hH.1, upd_eq, (upd_ne (by omega)).trans hH.2.2.1, (upd_ne (by omega)).trans hH.2.2.2.1, (upd_ne (by omega)).trans hH.2.2.2.2⟩ (KP_of hP (fun i h1 h2 => upd_ne (by omega)))
  · rw [if_neg c1, if_neg c1]; exact ⟨_, _, rfl, rfl, rfl, H0⟩
theorem s_pullIn {n : Nat} {kd hd bd pt w : Nat → Int32} (hC : KC n kd hd bd pt) (hW : KW n kd hd bd pt w) {a : Nat} (ha : a < 2 ^ n) (h2 : w 2 = nI a) (f : Int32) : f_X7_pullIn w f = some (nI (fallN kd hd bd (w 3) (w 0) a f), upd w 2 (nI (sd a (fallN kd hd bd (w 3) (w 0) a f)))) := by
  unfold f_X7_pullIn
  rw [s_falls7 hC hW ha h2]
  dsimp only
  rw [h2, kb_dif a (Nat.lt_of_lt_of_le ha (p8 hC.1)) _ (fallN_lt ..)]
theorem s_undoBy (kd hd bd fm : Nat → Int32) (wet day : Int32) {a : Nat} (ha : a < 256) (f : Int32) : ∃ f', f_X4_undoBy kd hd bd fm (nI a) wet day f = some (nI (fallN kd hd bd wet day a f), f', nI (sd a (fallN kd hd bd wet day a f))) := by
  obtain ⟨f', e, h⟩ := s_weigh kd hd fm wet day
  refine ⟨f', ?_⟩
  unfold f_X4_undoBy
  rw [e]
  dsimp only
  rw [s_falls6 ha h]
  dsimp only
  rw [kb_dif a ha _ (fallN_lt ..)]
theorem ko_pull {kd hd bd pt pn w : Nat → Int32} {sz ps t wars wet day drawn : Int32} (H : KR kd hd bd pt sz pn ps t wars wet day drawn w) (fm : Nat → Int32) (a1 : Int32) :
    ∃ q1 q2, f_X6_pull kd hd bd pn ps fm t wars wet day drawn a1 = some q1 ∧ f_X7_pull w a1 = some q2 ∧ q1.1 = q2.1 ∧ KR kd hd bd pt sz q1.2.1 q1.2.2.1 q1.2.2.2.2 wars wet day drawn q2.2 := by
  have H0 := H
  obtain ⟨n, k, rfl, rfl, hC, hW, hG, hH, hP⟩ := H
  have hn := hC.1
  unfold f_X6_pull f_X7_pull f_X6_isForce
  rw [kb_in7]
  by_cases c1 : f_X6_isWithin a1 (0 : Int32) (99 : Int32) = 0
  · rw [if_pos c1, if_pos c1]; exact ⟨_, _, rfl, rfl, rfl, H0⟩
  rw [if_neg c1, if_neg c1]
  obtain ⟨pn', k', w', e1, e2, hP', hw'⟩ := s_rem hP hG hH
  obtain ⟨⟨x, hx, rfl⟩, gw, gd, gr⟩ := hG
  obtain ⟨z0, z1, z2, z3, z4⟩ := hH
  have hx8 : x < 256 := Nat.lt_of_lt_of_le hx (p8 hn)
  have hW' : KW n kd hd bd pt w' := KW_of hn hW (fun i h1 h2 => hw' i h2)
  obtain ⟨f', e3⟩ := s_undoBy kd hd bd fm wet day hx8 a1
  have y2 : w' 2 = nI x := (hw' 2 (by omega)).trans z2
  have y3 : w' 3 = wet := (hw' 3 (by omega)).trans z3
  have y0 : w' 0 = day := (hw' 0 (by omega)).trans z0
  have e4 := s_pullIn hC hW' hx y2 a1
  rw [y3, y0] at e4
  rw [e1, e2]
  dsimp only
  rw [e3, e4]
  refine ⟨_, _, rfl, rfl, rfl, ?_⟩
  dsimp only
  refine KR_mk hC (KW_of hn hW' (fun i h1 h2 => upd_ne (by omega))) ⟨⟨_, sd_lt hx, rfl⟩, gw, gd, gr⟩ ⟨(upd_ne (by omega)).trans y0, (upd_ne (by omega)).trans ((hw' 1 (by omega)).trans z1), upd_eq, (upd_ne (by omega)).trans y3, (upd_ne (by omega)).trans ((hw' 4 (by omega)).trans z4)⟩ (KP_of hP' (fun i h1 h2 => upd_ne (by omega)))
theorem ko_cut {kd hd bd pt pn w : Nat → Int32} {sz ps t wars wet day drawn : Int32} (H : KR kd hd bd pt sz pn ps t wars wet day drawn w) (a1 : Int32) :
    ∃ q1 q2, f_X6_cut sz pn ps t wars wet day drawn a1 = some q1 ∧ f_X7_cut w a1 = some q2 ∧ q1.1 = q2.1 ∧ KR kd hd bd pt sz q1.2.1 q1.2.2.1 q1.2.2.2.1 q1.2.2.2.2 wet day drawn q2.2 := by
  have H0 := H
  obtain ⟨n, k, rfl, rfl, hC, hW, hG, hH, hP⟩ := H
  have hn := hC.1
  unfold f_X6_cut f_X7_cut
  rcases s_isCl hn hW.1 a1 with ⟨y1, y2⟩ | ⟨c, hc, rfl, y1, y2⟩
  · rw [if_pos y1, if_pos y2]; exact ⟨_, _, rfl, rfl, rfl, H0⟩
  rw [if_neg y1, if_neg y2]
  obtain ⟨pn', k', w', e1, e2, hP', hw'⟩ := s_rem hP hG hH
  obtain ⟨⟨x, hx, rfl⟩, gw, gd, gr⟩ := hG
  obtain ⟨z0, z1, z2, z3, z4⟩ := hH
  have hx8 : x < 256 := Nat.lt_of_lt_of_le hx (p8 hn)
  rw [show w 2 = nI x from z2]
  cases ht : x.testBit c
  · rw [if_pos (h6f hx8 (by omega) ht), if_pos (h7f hx8 (by omega) ht)]; exact ⟨_, _, rfl, rfl, rfl, H0⟩
  rw [if_neg (h6t hx8 (by omega) ht), if_neg (h7t hx8 (by omega) ht), e1, e2]
  have hc8 : c < 8 := by omega
  have p2 : 2 ^ c < 256 := Nat.pow_lt_pow_right (n := 8) (by omega) hc8
  have hW' : KW n kd hd bd pt w' := KW_of hn hW (fun i h1 h2 => hw' i h2)
  dsimp only
  rw [show w' 2 = nI x from (hw' 2 (by omega)).trans z2, kb_bt c (by omega), kb_dif x hx8 _ p2, show upd w' 2 (nI (sd x (2 ^ c))) 4 = wars from (upd_ne (by omega)).trans ((hw' 4 (by omega)).trans z4)]
  refine ⟨_, _, rfl, rfl, (by dsimp only; rw [upd_ne (by omega), upd_eq]), ?_⟩
  dsimp only
  refine KR_mk hC (KW_of hn hW' (fun i h1 h2 => by rw [upd_ne (by omega), upd_ne (by omega)])) ⟨⟨_, sd_lt hx, rfl⟩, gw, gd, gr⟩ ⟨?_, ?_, ?_, ?_, ?_⟩ (KP_of hP' (fun i h1 h2 => by rw [upd_ne (by omega), upd_ne (by omega)]))
  · exact ((upd_ne (by omega)).trans (upd_ne (by omega))).trans ((hw' 0 (by omega)).trans z0)
  · exact ((upd_ne (by omega)).trans (upd_ne (by omega))).trans ((hw' 1 (by omega)).trans z1)
  · exact (upd_ne (by omega)).trans upd_eq
  · exact ((upd_ne (by omega)).trans (upd_ne (by omega))).trans ((hw' 3 (by omega)).trans z3)
  · exact upd_eq
theorem ko_tie {kd hd bd pt pn w : Nat → Int32} {sz ps t wars wet day drawn : Int32} (H : KR kd hd bd pt sz pn ps t wars wet day drawn w) (a1 : Int32) :
    ∃ q1 q2, f_X6_tie sz pn ps t wars wet day drawn a1 = some q1 ∧ f_X7_tie w a1 = some q2 ∧ q1.1 = q2.1 ∧ KR kd hd bd pt sz q1.2.1 q1.2.2.1 q1.2.2.2 wars wet day drawn q2.2 := by
  have H0 := H
  obtain ⟨n, k, rfl, rfl, hC, hW, hG, hH, hP⟩ := H
  have hn := hC.1
  unfold f_X6_tie f_X7_tie
  rcases s_isCl hn hW.1 a1 with ⟨y1, y2⟩ | ⟨c, hc, rfl, y1, y2⟩
  · rw [if_pos y1, if_pos y2]; exact ⟨_, _, rfl, rfl, rfl, H0⟩
  rw [if_neg y1, if_neg y2]
  obtain ⟨pn', k', w', e1, e2, hP', hw'⟩ := s_rem hP hG hH
  obtain ⟨⟨x, hx, rfl⟩, gw, gd, gr⟩ := hG
  obtain ⟨z0, z1, z2, z3, z4⟩ := hH
  have hx8 : x < 256 := Nat.lt_of_lt_of_le hx (p8 hn)
  rw [show w 2 = nI x from z2]
  cases ht : x.testBit c
  · rw [if_pos (h6f hx8 (by omega) ht), if_pos (h7f hx8 (by omega) ht), e1, e2]
    have p2 : 2 ^ c < 2 ^ n := Nat.pow_lt_pow_right (by omega) hc
    have hW' : KW n kd hd bd pt w' := KW_of hn hW (fun i h1 h2 => hw' i h2)
    dsimp only
    rw [show w' 2 = nI x from (hw' 2 (by omega)).trans z2, kb_bt c (by omega), kb_or]
    refine ⟨_, _, rfl, rfl, (by dsimp only; exact upd_eq.symm), ?_⟩
    dsimp only
    refine KR_mk hC (KW_of hn hW' (fun i h1 h2 => upd_ne (by omega))) ⟨⟨_, Nat.or_lt_two_pow hx p2, rfl⟩, gw, gd, gr⟩ ⟨?_, ?_, upd_eq, ?_, ?_⟩ (KP_of hP' (fun i h1 h2 => upd_ne (by omega)))
    · exact (upd_ne (by omega)).trans ((hw' 0 (by omega)).trans z0)
    · exact (upd_ne (by omega)).trans ((hw' 1 (by omega)).trans z1)
    · exact (upd_ne (by omega)).trans ((hw' 3 (by omega)).trans z3)
    · exact (upd_ne (by omega)).trans ((hw' 4 (by omega)).trans z4)
  · rw [if_neg (h6t hx8 (by omega) ht), if_neg (h7t hx8 (by omega) ht)]; exact ⟨_, _, rfl, rfl, rfl, H0⟩
