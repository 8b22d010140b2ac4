/-! 54: drift, count, image, restore -/
noncomputable def dd (r : Int32) : Int32 := ((r * (Int32.ofNat 1103515245)) + ((Int16.ofInt 12345).toInt32)) &&& (Int32.ofNat 2147483647)
theorem dd_eq {x : Nat} : dd (nI x) = nI ((x * 1103515245 + 12345) % 2 ^ 31) := by
  unfold dd
  have e1 : nI x * Int32.ofNat 1103515245 = nI (x * 1103515245) := pk_mul x 1103515245
  have e2 : (Int16.ofInt 12345).toInt32 = nI 12345 := by decide
  have e3 : (nI (x * 1103515245 + 12345)).toBitVec.toNat % 2 ^ 31 = (x * 1103515245 + 12345) % 2 ^ 31 := by
    have e4 : (nI (x * 1103515245 + 12345)).toBitVec.toNat = (x * 1103515245 + 12345) % 2 ^ 32 := BitVec.toNat_ofNat ..
    rw [e4, Nat.mod_mod_of_dvd _ (by decide)]
  rw [e1, e2, nI_add, pk_and (nI (x * 1103515245 + 12345)) (m := Int32.ofNat 2147483647) 31 (by decide), e3]
theorem dd_pos {r : Int32} (h : ¬ r < 0) : ¬ dd r < 0 := by
  obtain ⟨x, hx, rfl⟩ := nI_of h
  rw [dd_eq]
  exact nI_pos (Nat.mod_lt _ (by decide))
theorem dr_eq {r : Int32} (h : ¬ r < 0) : ((((r.toInt64 * (Int64.ofNat 1103515245)) + (Int64.ofNat 12345)) - ((r.toInt64 * (Int64.ofNat 1103515245)) + (Int64.ofNat 12345)) / (Int64.ofNat 2147483648) * (Int64.ofNat 2147483648))).toInt32 = dd r := by
  obtain ⟨x, hx, rfl⟩ := nI_of h
  rw [dd_eq, nI_l hx]
  have e1 : lN x * Int64.ofNat 1103515245 = lN (x * 1103515245) := lN_mul x 1103515245
  have e2 : lN (x * 1103515245) + Int64.ofNat 12345 = lN (x * 1103515245 + 12345) := lN_add (x * 1103515245) 12345
  have e3 : lN (x * 1103515245 + 12345) - lN (x * 1103515245 + 12345) / Int64.ofNat 2147483648 * Int64.ofNat 2147483648 = lN ((x * 1103515245 + 12345) % 2147483648) := pk_lRem (a := x * 1103515245 + 12345) (b := 2147483648) (by omega) (by omega) (by omega)
  rw [e1, e2, e3, lN_i]
theorem s_drift {n : Nat} {kd hd bd pt : Nat → Int32} (hC : KC n kd hd bd pt) (M : Nat) (hM : M ≤ 40) : ∀ (m fuel i : Nat) (pn : Nat → Int32) (k : Nat) (fm : Nat → Int32) (t wars wet : Int32) (d : Nat) (drawn : Int32) (w : Nat → Int32), i + m = M → m < fuel → d + m ≤ 9999 → KW n kd hd bd pt w → KG n t wet (nI d) drawn → KH w 0 t wars wet (nI d) drawn → KP n k pn w →
    ∃ q1 q2, fl_X6_drift_32 fuel kd hd bd pn (nI k) fm t wars wet (nI d) drawn (nI M) (nI i) = some q1 ∧ fl_X7_drift_31 fuel w (nI M) (nI i) = some q2 ∧ q1.1 = q2.1 ∧ KR kd hd bd pt (nI n) q1.2.1 q1.2.2.1 q1.2.2.2.2.1 wars q1.2.2.2.2.2.1 q1.2.2.2.2.2.2.1 q1.2.2.2.2.2.2.2 q2.2 := by
  have hn := hC.1
  intro m
  induction m with
  | zero =>
    intro fuel i pn k fm t wars wet d drawn w hi hf hdm hW hG hH hP
    obtain ⟨f, rfl⟩ : ∃ f, fuel = f + 1 := ⟨fuel - 1, by omega⟩
    have e : i = M := by omega
    subst e
    rw [fl_X6_drift_32, fl_X7_drift_31, if_pos (Int32.le_refl _), if_pos (Int32.le_refl _)]
    exact ⟨_, _, rfl, rfl, hH.2.2.1.symm, KR_mk hC hW hG hH hP⟩
  | succ m ih =>
    intro fuel i pn k fm t wars wet d drawn w hi hf hdm hW hG hH hP
    obtain ⟨f, rfl⟩ : ∃ f, fuel = f + 1 := ⟨fuel - 1, by omega⟩
    rw [fl_X6_drift_32, fl_X7_drift_31, if_neg (nI_ge (by omega) (by omega)), if_neg (nI_ge (by omega) (by omega))]
    obtain ⟨pn', k', w', e1, e2, hP', hw'⟩ := s_rem hP hG hH
    obtain ⟨⟨x, hx, rfl⟩, gw, gd, gr⟩ := hG
    obtain ⟨z0, z1, z2, z3, z4⟩ := hH
    have hx8 : x < 256 := Nat.lt_of_lt_of_le hx (p8 hn)
    have y0 : w' 0 = nI d := (hw' 0 (by omega)).trans z0
    have y1 : w' 1 = drawn := (hw' 1 (by omega)).trans z1
    have y2 : w' 2 = nI x := (hw' 2 (by omega)).trans z2
    have y4 : w' 4 = wars := (hw' 4 (by omega)).trans z4
    rw [e1, e2]
    dsimp only
    unfold f_X4_driftOneDay
    simp only [kn_se_eq]
    rw [y1, dr_eq gr, show (drawn * Int32.ofNat 1103515245 + (Int16.ofInt 12345).toInt32) &&& Int32.ofNat 2147483647 = dd drawn from rfl]
    simp (disch := omega) only [upd_ne, upd_eq]
    have fin : ∀ (b : Int32), (b = 0 ∨ b = 1) → ∀ F : Int32, ∃ q1 q2, (match f_X4_undoBy kd hd bd fm (nI x) b (nI d) F with
        | none => none
        | some q2 => fl_X6_drift_32 f kd hd bd pn' (nI k') q2.2.1 q2.2.2 wars b (nI d + (1 : Int32)) (dd drawn) (nI M) (nI i + (1 : Int32))) = some q1 ∧ (match f_X7_pullIn (upd (upd w' 1 (dd drawn)) 3 b) F with
        | none => none
        | some q2 => fl_X7_drift_31 f (upd q2.2 0 ((q2.2 0) + (1 : Int32))) (nI M) (nI i + (1 : Int32))) = some q2 ∧ q1.1 = q2.1 ∧ KR kd hd bd pt (nI n) q1.2.1 q1.2.2.1 q1.2.2.2.2.1 wars q1.2.2.2.2.2.1 q1.2.2.2.2.2.2.1 q1.2.2.2.2.2.2.2 q2.2 := by
      intro b hb F
      obtain ⟨f', e3⟩ := s_undoBy kd hd bd fm b (nI d) hx8 F
      have hW' : KW n kd hd bd pt (upd (upd w' 1 (dd drawn)) 3 b) := KW_of hn hW (fun j h1 h2 => by rw [upd_ne (by omega), upd_ne (by omega)]; exact hw' j h2)
      have e4 := s_pullIn hC hW' hx (by rw [upd_ne (by omega), upd_ne (by omega)]; exact y2) F
      rw [show upd (upd w' 1 (dd drawn)) 3 b 3 = b from upd_eq, show upd (upd w' 1 (dd drawn)) 3 b 0 = nI d by rw [upd_ne (by omega), upd_ne (by omega)]; exact y0] at e4
      rw [e3, e4]
      dsimp only
      rw [show upd (upd (upd w' 1 (dd drawn)) 3 b) 2 (nI (sd x (fallN kd hd bd b (nI d) x F))) 0 = nI d by rw [upd_ne (by omega), upd_ne (by omega), upd_ne (by omega)]; exact y0, nI_1, nI_1]
      refine ih f (i + 1) pn' k' f' _ wars b (d + 1) (dd drawn) _ (by omega) (by omega) (by omega) (KW_of hn hW' (fun j h1 h2 => by rw [upd_ne (by omega), upd_ne (by omega)])) ⟨⟨_, sd_lt hx, rfl⟩, hb, ⟨d + 1, by omega, rfl⟩, dd_pos gr⟩ ⟨upd_eq, ?_, ?_, ?_, ?_⟩ (KP_of hP' (fun j h1 h2 => by rw [upd_ne (by omega), upd_ne (by omega), upd_ne (by omega), upd_ne (by omega)]))
      · simp (disch := omega) only [upd_ne, upd_eq]
      · simp (disch := omega) only [upd_ne, upd_eq]
      · simp (disch := omega) only [upd_ne, upd_eq]
      · simp (disch := omega) only [upd_ne, upd_eq]; exact y4
    by_cases hc : (dd drawn / Int32.ofNat 65536) - (dd drawn / Int32.ofNat 65536) / (3 : Int32) * (3 : Int32) = 0
    · simp only [if_pos hc]
      obtain ⟨f', e3⟩ := s_undoBy kd hd bd fm 1 (nI d) hx8 (dd drawn / (Int16.ofInt 128).toInt32 - dd drawn / (Int16.ofInt 128).toInt32 / (30 : Int32) * (30 : Int32))
      have h := fin 1 (Or.inr rfl) (dd drawn / (Int16.ofInt 128).toInt32 - dd drawn / (Int16.ofInt 128).toInt32 / (30 : Int32) * (30 : Int32))
      rw [e3] at h ⊢
      exact h
    · simp only [if_neg hc]
      obtain ⟨f', e3⟩ := s_undoBy kd hd bd fm 0 (nI d) hx8 (dd drawn / (Int16.ofInt 128).toInt32 - dd drawn / (Int16.ofInt 128).toInt32 / (30 : Int32) * (30 : Int32))
      have h := fin 0 (Or.inl rfl) (dd drawn / (Int16.ofInt 128).toInt32 - dd drawn / (Int16.ofInt 128).toInt32 / (30 : Int32) * (30 : Int32))
      rw [e3] at h ⊢
      exact h
theorem ko_drift {kd hd bd pt pn w : Nat → Int32} {sz ps t wars wet day drawn : Int32} (H : KR kd hd bd pt sz pn ps t wars wet day drawn w) (fm : Nat → Int32) (a1 : Int32) :
    ∃ q1 q2, f_X6_drift kd hd bd pn ps fm t wars wet day drawn a1 = some q1 ∧ f_X7_drift w a1 = some q2 ∧ q1.1 = q2.1 ∧ KR kd hd bd pt sz q1.2.1 q1.2.2.1 q1.2.2.2.2.1 wars q1.2.2.2.2.2.1 q1.2.2.2.2.2.2.1 q1.2.2.2.2.2.2.2 q2.2 := by
  have H0 := H
  obtain ⟨n, k, rfl, rfl, hC, hW, hG, hH, hP⟩ := H
  have hn := hC.1
  unfold f_X6_drift f_X7_drift
  rw [kb_in7]
  by_cases c1 : f_X6_isWithin a1 (1 : Int32) (40 : Int32) = 0
  · rw [if_pos c1, if_pos c1]; exact ⟨_, _, rfl, rfl, rfl, H0⟩
  rw [if_neg c1, if_neg c1]
  obtain ⟨j, hj1, hj, rfl⟩ := kb_win (a := 1) (b := 40) (by omega) (by omega) c1
  obtain ⟨d, hd', e⟩ := hG.2.2.1
  subst e
  rw [show w 0 = nI d from hH.1, nI_add, n9999]
  by_cases c2 : nI (d + j) ≤ nI 9999
  · rw [if_pos c2, if_pos c2]
    have hdj := (nI_leI (by omega) (by omega)).mp c2
    exact s_drift hC j hj j 300 0 pn k fm t wars wet d drawn w (by omega) (by omega) hdj hW hG hH hP
  · rw [if_neg c2, if_neg c2]; exact ⟨_, _, rfl, rfl, rfl, H0⟩
theorem s_freeIn {n : Nat} {kd hd bd pt w : Nat → Int32} (hn : n ≤ 8) (hW : KW n kd hd bd pt w) {a : Nat} (ha : a < 2 ^ n) (h2 : w 2 = nI a) : f_X7_freeIn w = some (nI (ng (pfree bd a) 8)) := by
  have ha8 : a < 256 := Nat.lt_of_lt_of_le ha (p8 hn)
  have e : ng (pfree bd a) 8 = ng (pfree (fun c => w (22 + c)) a) n := by
    refine ng_cut hn ?_ ?_
    · intro c hc
      show (_ && decide ((bd c &&& nI a) = 0)) = (_ && decide ((w (22 + c) &&& nI a) = 0))
      rw [(hW.2 c hc).2.2.1]
    · intro c hc _
      have ht : a.testBit c = false := Nat.testBit_lt_two_pow (Nat.lt_of_lt_of_le ha (Nat.pow_le_pow_right (by omega) hc))
      show (a.testBit c && _) = false
      rw [ht, Bool.false_and]
  rw [e]
  unfold f_X7_freeIn
  refine lpo (fun m s c => fl_X7_freeIn_4 m w s (nI c)) n _ (by omega) ?_ ?_ ?_
  · intro m s
    show fl_X7_freeIn_4 (m + 1) w s (nI n) = some s
    rw [fl_X7_freeIn_4, hW.1, if_pos (Int32.le_refl _)]
  · intro m s c hc hp
    show fl_X7_freeIn_4 (m + 1) w s (nI c) = fl_X7_freeIn_4 m w _ (nI (c + 1))
    rw [fl_X7_freeIn_4, hW.1, if_neg (nI_ge hc (by omega)), h2, s_isFree w ha8 (by omega), if_pos hp]
    dsimp only
    rw [if_neg (by decide), nI_1]
  · intro m s c hc hp
    right
    show fl_X7_freeIn_4 (m + 1) w s (nI c) = fl_X7_freeIn_4 m w (s ||| 0) (nI (c + 1))
    rw [fl_X7_freeIn_4, hW.1, if_neg (nI_ge hc (by omega)), h2, s_isFree w ha8 (by omega), if_neg (by rw [hp]; decide)]
    dsimp only
    rw [if_pos rfl, nI_1]
def bo (x : Nat) (q : Nat → Nat) : Nat → Nat
  | 0 => 0
  | k + 1 => bo x q k ||| (if x.testBit k then 2 ^ q k else 0)
theorem bo_tb (x : Nat) (q : Nat → Nat) (p : Nat) : ∀ k, (bo x q k).testBit p = true ↔ ∃ c, c < k ∧ x.testBit c = true ∧ q c = p
  | 0 => by
    show Nat.testBit 0 p = true ↔ _
    rw [Nat.zero_testBit]
    exact ⟨fun h => absurd h (by decide), fun ⟨c, hc, _⟩ => absurd hc (by omega)⟩
  | k + 1 => by
    show (bo x q k ||| (if x.testBit k then 2 ^ q k else 0)).testBit p = true ↔ _
    rw [Nat.testBit_or, Bool.or_eq_true, bo_tb x q p k]
    constructor
    · rintro (⟨c, hc, h⟩ | h)
      · exact ⟨c, by omega, h⟩
      · by_cases ht : x.testBit k = true
        · rw [if_pos ht, Nat.testBit_two_pow, decide_eq_true_eq] at h
          exact ⟨k, by omega, ht, h⟩
        · rw [if_neg ht, Nat.zero_testBit] at h
          exact absurd h (by decide)
    · rintro ⟨c, hc, h1, h2⟩
      by_cases e : c = k
      · subst e
        right
        rw [if_pos h1, Nat.testBit_two_pow, decide_eq_true_eq]
        exact h2
      · exact Or.inl ⟨c, by omega, h1, h2⟩
theorem ko_count {kd hd bd pt pn w : Nat → Int32} {sz ps t wars wet day drawn : Int32} (H : KR kd hd bd pt sz pn ps t wars wet day drawn w) (a1 : Int32) :
    ∃ q1 q2, f_X6_count bd pt sz ps t wars wet day a1 = some q1 ∧ f_X7_count w a1 = some q2 ∧ q1 = q2 := by
  obtain ⟨n, k, rfl, rfl, hC, hW, hG, hH, hP⟩ := H
  have hn := hC.1
  obtain ⟨⟨x, hx, rfl⟩, gw, gd, gr⟩ := hG
  obtain ⟨z0, z1, z2, z3, z4⟩ := hH
  have hx8 : x < 256 := Nat.lt_of_lt_of_le hx (p8 hn)
  have e6 : f_X4_boundParties pt (nI n) (nI x) = some (nI (ng (fun p => decide (¬ (nI (ng (fun c => decide (pt c = nI p)) n) &&& nI x) = 0)) 4)) := by
    unfold f_X4_boundParties
    refine lpo (fun m s c => fl_X4_boundParties_4 m pt (nI n) (nI x) s (nI c)) 4 _ (by omega) ?_ ?_ ?_
    · intro m s
      show fl_X4_boundParties_4 (m + 1) pt (nI n) (nI x) s (nI 4) = some s
      rw [fl_X4_boundParties_4, if_pos (by decide)]
    · intro m s c hc hp
      show fl_X4_boundParties_4 (m + 1) pt (nI n) (nI x) s (nI c) = fl_X4_boundParties_4 m pt (nI n) (nI x) _ (nI (c + 1))
      have l4 : ¬ (4 : Int32) ≤ nI c := nI_ge (b := 4) hc (by decide)
      rw [decide_eq_true_eq] at hp
      rw [fl_X4_boundParties_4, if_neg l4, s_owed6 hn]
      dsimp only
      rw [if_neg hp, nI_1]
    · intro m s c hc hp
      left
      show fl_X4_boundParties_4 (m + 1) pt (nI n) (nI x) s (nI c) = fl_X4_boundParties_4 m pt (nI n) (nI x) s (nI (c + 1))
      have l4 : ¬ (4 : Int32) ≤ nI c := nI_ge (b := 4) hc (by decide)
      rw [decide_eq_false_iff_not, Classical.not_not] at hp
      rw [fl_X4_boundParties_4, if_neg l4, s_owed6 hn]
      dsimp only
      rw [if_pos hp, nI_1]
  have hq : ∀ c, c < n → (pt c).toNatClampNeg < 4 ∧ pt c = nI (pt c).toNatClampNeg := by
    intro c hc
    obtain ⟨-, -, -, p, hp, e⟩ := hC.2 c hc
    rw [e, nI_clamp (by omega)]
    exact ⟨hp, rfl⟩
  have e7 : f_X7_boundOnes w = some (nI (bo x (fun c => (pt c).toNatClampNeg) n)) := by
    obtain ⟨r, e, q⟩ := lp (fun m s c => fl_X7_boundOnes_4 m w s (nI c)) n (fun c s => s = nI (bo x (fun c => (pt c).toNatClampNeg) c)) (fun r => r = nI (bo x (fun c => (pt c).toNatClampNeg) n))
      (fun m s h => ⟨s, by
        show fl_X7_boundOnes_4 (m + 1) w s (nI n) = some s
        rw [fl_X7_boundOnes_4, hW.1, if_pos (Int32.le_refl _)], h⟩)
      (fun m s c hc h => by
        right
        subst h
        refine ⟨_, rfl, ?_⟩
        show fl_X7_boundOnes_4 (m + 1) w _ (nI c) = fl_X7_boundOnes_4 m w (nI (bo x (fun c => (pt c).toNatClampNeg) c ||| (if x.testBit c then 2 ^ (pt c).toNatClampNeg else 0))) (nI (c + 1))
        rw [fl_X7_boundOnes_4, hW.1, if_neg (nI_ge hc (by omega)), show w 2 = nI x from z2]
        cases ht : x.testBit c
        · rw [if_pos (h7f hx8 (by omega) ht), or0, if_neg (by decide), Nat.or_zero, nI_1]
        · rw [if_neg (h7t hx8 (by omega) ht), c30, if_neg (nI_in (by omega) (by decide)), nI_clamp (n := 30 + c) (by omega), (hW.2 c hc).2.2.2, if_pos rfl, nI_1]
          have h4 := hq c hc
          have eb : (1 : Int32) <<< (pt c &&& (31 : Int32)) = nI (2 ^ (pt c).toNatClampNeg) := by
            have hb := kb_bt (pt c).toNatClampNeg (by omega)
            rw [← h4.2] at hb
            exact hb
          rw [eb, kb_or])
      n 300 0 0 (by omega) (by omega) rfl
    rw [q] at e
    exact e
  have ee : ng (fun p => decide (¬ (nI (ng (fun c => decide (pt c = nI p)) n) &&& nI x) = 0)) 4 = bo x (fun c => (pt c).toNatClampNeg) n := by
    apply Nat.eq_of_testBit_eq
    intro p
    apply Bool.eq_iff_iff.mpr
    rw [ng_tb, bo_tb, Bool.and_eq_true, decide_eq_true_eq, decide_eq_true_eq, kb_and]
    constructor
    · rintro ⟨hp, h⟩
      have h0 : ng (fun c => decide (pt c = nI p)) n &&& x ≠ 0 := by
        intro h0
        rw [h0] at h
        exact h rfl
      obtain ⟨c, hc⟩ := Nat.exists_testBit_of_ne_zero h0
      rw [Nat.testBit_and, ng_tb, Bool.and_eq_true, Bool.and_eq_true, decide_eq_true_eq, decide_eq_true_eq] at hc
      refine ⟨c, hc.1.1, hc.2, ?_⟩
      show (pt c).toNatClampNeg = p
      rw [hc.1.2, nI_clamp (by omega)]
    · rintro ⟨c, hc, ht, hp⟩
      have h4 := hq c hc
      have hp' : (pt c).toNatClampNeg = p := hp
      refine ⟨by omega, ?_⟩
      intro h
      have hl : ng (fun c => decide (pt c = nI p)) n &&& x < 2 ^ 31 := Nat.lt_of_le_of_lt Nat.and_le_right (by omega)
      have h0 := (nI_eq (b := 0) hl (by omega)).mp h
      have hb : (ng (fun c => decide (pt c = nI p)) n &&& x).testBit c = true := by
        rw [Nat.testBit_and, ng_tb, decide_eq_true hc, ht]
        show (true && decide (pt c = nI p) && true) = true
        rw [decide_eq_true (by rw [h4.2, hp'])]; rfl
      rw [h0, Nat.zero_testBit] at hb
      exact absurd hb (by decide)
  unfold f_X6_count f_X7_count
  rw [hW.1, hP.2.1, show w 0 = day from z0, show w 3 = wet from z3, show w 2 = nI x from z2, show w 4 = wars from z4, e6, e7, ee, s_free6 bd hx8, s_freeIn hn hW hx z2]
  by_cases d0 : a1 = 0
  · simp only [if_pos d0]; exact ⟨_, _, rfl, rfl, rfl⟩
  simp only [if_neg d0]
  by_cases d1 : a1 = 1
  · simp only [if_pos d1]; exact ⟨_, _, rfl, rfl, rfl⟩
  simp only [if_neg d1]
  by_cases d2 : a1 = 2
  · simp only [if_pos d2]; exact ⟨_, _, rfl, rfl, rfl⟩
  simp only [if_neg d2]
  by_cases d3 : a1 = 3
  · simp only [if_pos d3]; exact ⟨_, _, rfl, rfl, rfl⟩
  simp only [if_neg d3]
  by_cases d4 : a1 = 4
  · simp only [if_pos d4]; exact ⟨_, _, rfl, rfl, rfl⟩
  simp only [if_neg d4]
  by_cases d5 : a1 = 5
  · simp only [if_pos d5]; exact ⟨_, _, rfl, rfl, rfl⟩
  simp only [if_neg d5]
  by_cases d6 : a1 = 6
  · simp only [if_pos d6]; exact ⟨_, _, rfl, rfl, rfl⟩
  simp only [if_neg d6]
  by_cases d7 : a1 = 7
  · simp only [if_pos d7]; exact ⟨_, _, rfl, rfl, rfl⟩
  simp only [if_neg d7]
  exact ⟨_, _, rfl, rfl, rfl⟩
theorem KR_of {kd hd bd pt pn w kd' hd' bd' pt' pn' w' : Nat → Int32} {sz ps t wars wet day drawn : Int32} (H : KR kd hd bd pt sz pn ps t wars wet day drawn w)
    (h1 : ∀ c, c < 8 → kd' c = kd c) (h2 : ∀ c, c < 8 → hd' c = hd c) (h3 : ∀ c, c < 8 → bd' c = bd c) (h4 : ∀ c, c < 8 → pt' c = pt c) (h5 : ∀ i, i < 40 → pn' i = pn i) (h6 : ∀ i, i < 79 → w' i = w i) : KR kd' hd' bd' pt' sz pn' ps t wars wet day drawn w' := by
  obtain ⟨n, k, rfl, rfl, hC, hW, hG, hH, hP⟩ := H
  have hn := hC.1
  refine KR_mk ⟨hn, ?_⟩ ⟨(h6 5 (by omega)).trans hW.1, ?_⟩ hG ⟨(h6 _ (by omega)).trans hH.1, (h6 _ (by omega)).trans hH.2.1, (h6 _ (by omega)).trans hH.2.2.1, (h6 _ (by omega)).trans hH.2.2.2.1, (h6 _ (by omega)).trans hH.2.2.2.2⟩ ⟨hP.1, (h6 38 (by omega)).trans hP.2.1, ?_⟩
  · intro c hc
    rw [h1 c (by omega), h2 c (by omega), h3 c (by omega), h4 c (by omega)]
    exact hC.2 c hc
  · intro c hc
    rw [h1 c (by omega), h2 c (by omega), h3 c (by omega), h4 c (by omega), h6 _ (by omega), h6 _ (by omega), h6 _ (by omega), h6 _ (by omega)]
    exact hW.2 c hc
  · intro j hj
    have hk := hP.1
    have h := hP.2.2 j hj
    unfold KH at h ⊢
    rw [h5 (5 * j) (by omega), h5 (5 * j + 1) (by omega), h5 (5 * j + 2) (by omega), h5 (5 * j + 3) (by omega), h5 (5 * j + 4) (by omega), h6 _ (by omega), h6 _ (by omega), h6 _ (by omega), h6 _ (by omega), h6 _ (by omega)]
    exact h
theorem s_bring3 (a s : Nat → Int32) : ∃ s', f_X7_bring_3 a s (0 : Int32) (0 : Int32) (79 : Int32) = some s' ∧ ∀ j, j < 79 → s' j = a j :=
  lp (fun n cur v => fl_X7_bring_3_3 n a cur (nI 0) (nI 0) (nI 79) (nI v)) 79 (fun v cur => ∀ j, j < v → cur j = a j) _
    (fun n cur h => ⟨cur, by
      show fl_X7_bring_3_3 (n + 1) a cur (nI 0) (nI 0) (nI 79) (nI 79) = some cur
      rw [fl_X7_bring_3_3, if_pos (Int32.le_refl _)], h⟩)
    (fun n cur v hv h => Or.inr ⟨upd cur v (a v), by
      intro j hj
      by_cases e : j = v
      · subst e; exact upd_eq
      · rw [upd_ne e]; exact h j (by omega), by
      show fl_X7_bring_3_3 (n + 1) a cur (nI 0) (nI 0) (nI 79) (nI v) = fl_X7_bring_3_3 n a _ (nI 0) (nI 0) (nI 79) (nI (v + 1))
      rw [fl_X7_bring_3_3, if_neg (nI_ge hv (by omega)), nI_add, Nat.zero_add, if_neg (nI_in (by omega) (by decide)), if_neg (nI_in (by omega) (by decide)), nI_clamp (by omega), nI_1]⟩)
    79 300 s 0 (by omega) (by omega) (fun j h => absurd h (by omega))
theorem s_bring4 (a s : Nat → Int32) : ∃ s', f_X7_bring_4 s a (0 : Int32) (0 : Int32) (79 : Int32) = some s' ∧ ∀ j, j < 79 → s' j = a j :=
  lp (fun n cur v => fl_X7_bring_4_3 n cur a (nI 0) (nI 0) (nI 79) (nI v)) 79 (fun v cur => ∀ j, j < v → cur j = a j) _
    (fun n cur h => ⟨cur, by
      show fl_X7_bring_4_3 (n + 1) cur a (nI 0) (nI 0) (nI 79) (nI 79) = some cur
      rw [fl_X7_bring_4_3, if_pos (Int32.le_refl _)], h⟩)
    (fun n cur v hv h => Or.inr ⟨upd cur v (a v), by
      intro j hj
      by_cases e : j = v
      · subst e; exact upd_eq
      · rw [upd_ne e]; exact h j (by omega), by
      show fl_X7_bring_4_3 (n + 1) cur a (nI 0) (nI 0) (nI 79) (nI v) = fl_X7_bring_4_3 n _ a (nI 0) (nI 0) (nI 79) (nI (v + 1))
      rw [fl_X7_bring_4_3, if_neg (nI_ge hv (by omega)), nI_add, Nat.zero_add, if_neg (nI_in (by omega) (by decide)), if_neg (nI_in (by omega) (by decide)), nI_clamp (by omega), nI_1]⟩)
    79 300 s 0 (by omega) (by omega) (fun j h => absurd h (by omega))
theorem cpy0 {a b : Nat → Int32} {n c : Nat} (h : c < n) : va_cpy a b 0 0 n c = a c := by
  rw [pk_cpy_in (by omega) (by omega)]
  congr 1
  omega
theorem ko_image {kd hd bd pt pn w : Nat → Int32} {sz ps t wars wet day drawn : Int32} (H : KR kd hd bd pt sz pn ps t wars wet day drawn w) (kkd khd kbd kpt : Nat → Int32) (ksz : Int32) (kpn : Nat → Int32) (kps kt kwars kwet kday kdrawn isK : Int32) (mk : Nat → Int32) (mik : Int32) :
    ∃ q1 q2, f_X6_image kd hd bd pt sz pn ps t wars wet day drawn kkd khd kbd kpt ksz kpn kps kt kwars kwet kday kdrawn isK = some q1 ∧ f_X7_image w mk mik = some q2 ∧ q1.1 = q2.1 ∧ KR q1.2.1 q1.2.2.1 q1.2.2.2.1 q1.2.2.2.2.1 q1.2.2.2.2.2.1 q1.2.2.2.2.2.2.1 q1.2.2.2.2.2.2.2.1 q1.2.2.2.2.2.2.2.2.1 q1.2.2.2.2.2.2.2.2.2.1 q1.2.2.2.2.2.2.2.2.2.2.1 q1.2.2.2.2.2.2.2.2.2.2.2.1 q1.2.2.2.2.2.2.2.2.2.2.2.2.1 q2.2.1 ∧ q1.2.2.2.2.2.2.2.2.2.2.2.2.2 = 1 ∧ q2.2.2 = 1 := by
  obtain ⟨s', e, h⟩ := s_bring3 w mk
  unfold f_X6_image f_X4_become f_X0_become_1 f_X2_become f_X7_image
  rw [e]
  refine ⟨_, _, rfl, rfl, rfl, ?_, rfl, rfl⟩
  exact KR_of H (fun c hc => cpy0 hc) (fun c hc => cpy0 hc) (fun c hc => cpy0 hc) (fun c hc => cpy0 hc) (fun c hc => cpy0 hc) h
theorem ko_restore {kd hd bd pt pn w : Nat → Int32} {sz ps t wars wet day drawn : Int32} (H : KR kd hd bd pt sz pn ps t wars wet day drawn w) {kkd khd kbd kpt : Nat → Int32} {ksz : Int32} {kpn : Nat → Int32} {kps kt kwars kwet kday kdrawn isK : Int32} {mk : Nat → Int32}
    (K : isK = 0 ∨ KR kkd khd kbd kpt ksz kpn kps kt kwars kwet kday kdrawn mk) :
    ∃ q1 q2, f_X6_restore kd hd bd pt sz pn ps t wars wet day drawn kkd khd kbd kpt ksz kpn kps kt kwars kwet kday kdrawn isK = some q1 ∧ f_X7_restore w mk isK = some q2 ∧ q1.1 = q2.1 ∧ KR q1.2.1 q1.2.2.1 q1.2.2.2.1 q1.2.2.2.2.1 q1.2.2.2.2.2.1 q1.2.2.2.2.2.2.1 q1.2.2.2.2.2.2.2.1 q1.2.2.2.2.2.2.2.2.1 q1.2.2.2.2.2.2.2.2.2.1 q1.2.2.2.2.2.2.2.2.2.2.1 q1.2.2.2.2.2.2.2.2.2.2.2.1 q1.2.2.2.2.2.2.2.2.2.2.2.2 q2.2 := by
  unfold f_X6_restore f_X4_become_1 f_X0_become_2 f_X2_become_1 f_X7_restore
  by_cases h0 : isK = 0
  · rw [if_pos h0, if_pos h0]
    exact ⟨_, _, rfl, rfl, rfl, H⟩
  · rw [if_neg h0, if_neg h0]
    obtain ⟨s', e, h⟩ := s_bring4 mk w
    rw [e]
    refine ⟨_, _, rfl, rfl, rfl, ?_⟩
    exact KR_of (K.resolve_left h0) (fun c hc => cpy0 hc) (fun c hc => cpy0 hc) (fun c hc => cpy0 hc) (fun c hc => cpy0 hc) (fun c hc => cpy0 hc) h
