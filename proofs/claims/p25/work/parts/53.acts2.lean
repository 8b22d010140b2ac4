/-! 53: weather, days, drift, undo, count, image, restore, falls -/
def sm (P : Nat → Bool) (g : Nat → Int32) : Nat → Int32
  | 0 => 0
  | k + 1 => if P k then sm P g k + g k else sm P g k
theorem sm_t {P : Nat → Bool} {g : Nat → Int32} {k : Nat} (h : P k = true) : sm P g (k + 1) = sm P g k + g k := if_pos h
theorem sm_f {P : Nat → Bool} {g : Nat → Int32} {k : Nat} (h : P k = false) : sm P g (k + 1) = sm P g k := if_neg (by rw [h]; decide)
theorem sm_ext {P Q : Nat → Bool} {g h : Nat → Int32} : ∀ k, (∀ c, c < k → P c = Q c ∧ g c = h c) → sm P g k = sm Q h k
  | 0, _ => rfl
  | k + 1, e => by
    show (if P k then sm P g k + g k else sm P g k) = (if Q k then sm Q h k + h k else sm Q h k)
    rw [sm_ext k (fun c hc => e c (by omega)), (e k (by omega)).1, (e k (by omega)).2]
theorem sm_cut {P : Nat → Bool} {g : Nat → Int32} {n : Nat} : ∀ m, (∀ c, n ≤ c → c < n + m → P c = false) → sm P g (n + m) = sm P g n
  | 0, _ => rfl
  | m + 1, h => by
    have e := sm_f (g := g) (h (n + m) (by omega) (by omega))
    exact e.trans (sm_cut m (fun c h1 h2 => h c h1 (by omega)))
theorem s_tog6 (kd hd : Nat → Int32) (wet day : Int32) {a : Nat} (ha : a < 256) : f_X4_firmTogether kd hd (nI a) wet day = some (sm a.testBit (fun c => f_X4_firmBy wet (kd c) (hd c) day) 8) := by
  obtain ⟨r, e, q⟩ := lp (fun n s c => fl_X4_firmTogether_4 n kd hd (nI a) wet day s (nI c)) 8 (fun c s => s = sm a.testBit (fun c => f_X4_firmBy wet (kd c) (hd c) day) c) (fun r => r = sm a.testBit (fun c => f_X4_firmBy wet (kd c) (hd c) day) 8)
    (fun n s h => ⟨s, by
      show fl_X4_firmTogether_4 (n + 1) kd hd (nI a) wet day s (nI 8) = some s
      rw [fl_X4_firmTogether_4, if_pos (by decide)], h⟩)
    (fun n s c hc h => by
      right
      subst h
      refine ⟨_, rfl, ?_⟩
      show fl_X4_firmTogether_4 (n + 1) kd hd (nI a) wet day _ (nI c) = fl_X4_firmTogether_4 n kd hd (nI a) wet day _ (nI (c + 1))
      rw [fl_X4_firmTogether_4, if_neg (kb8 hc)]
      cases ht : a.testBit c
      · rw [if_pos (h6f ha hc ht), sm_f ht, nI_1]
      · rw [if_neg (h6t ha hc ht), sm_t ht, s_firm6 kd hd wet day hc]
        dsimp only
        rw [nI_1])
    8 300 0 0 (by omega) (by omega) rfl
  rw [q] at e
  exact e
theorem s_tog7 {n : Nat} {kd hd bd pt w : Nat → Int32} (hC : KC n kd hd bd pt) (hW : KW n kd hd bd pt w) {a : Nat} (ha : a < 2 ^ n) (h2 : w 2 = nI a) : fl_X7_wet_39 300 w (0 : Int32) (0 : Int32) = some (sm a.testBit (fun c => f_X4_firmBy (w 3) (kd c) (hd c) (w 0)) 8, w) := by
  have hn := hC.1
  have ha8 : a < 256 := Nat.lt_of_lt_of_le ha (p8 hn)
  have e8 : sm a.testBit (fun c => f_X4_firmBy (w 3) (kd c) (hd c) (w 0)) 8 = sm a.testBit (fun c => f_X7_firmBy w (w (6 + c)) (w (14 + c))) n := by
    have h1 := sm_cut (P := a.testBit) (g := fun c => f_X4_firmBy (w 3) (kd c) (hd c) (w 0)) (n := n) (8 - n) (fun c h1 _ => Nat.testBit_lt_two_pow (Nat.lt_of_lt_of_le ha (Nat.pow_le_pow_right (by omega) h1)))
    rw [show n + (8 - n) = 8 by omega] at h1
    rw [h1]
    refine sm_ext n (fun c hc => ⟨rfl, ?_⟩)
    obtain ⟨w6, w14, w22, w30⟩ := hW.2 c hc
    obtain ⟨⟨k, hk, ek⟩, -⟩ := hC.2 c hc
    show f_X4_firmBy (w 3) (kd c) (hd c) (w 0) = f_X7_firmBy w (w (6 + c)) (w (14 + c))
    rw [w6, w14, ek, s_firmBy w hk]
  rw [e8]
  obtain ⟨r, e, q⟩ := lp (fun m s c => fl_X7_wet_39 m w s (nI c)) n (fun c s => s = sm a.testBit (fun c => f_X7_firmBy w (w (6 + c)) (w (14 + c))) c) (fun r => r = (sm a.testBit (fun c => f_X7_firmBy w (w (6 + c)) (w (14 + c))) n, w))
    (fun m s h => ⟨(s, w), by
      show fl_X7_wet_39 (m + 1) w s (nI n) = some (s, w)
      rw [fl_X7_wet_39, hW.1, if_pos (Int32.le_refl _)], by rw [h]⟩)
    (fun m s c hc h => by
      right
      subst h
      refine ⟨_, rfl, ?_⟩
      show fl_X7_wet_39 (m + 1) w _ (nI c) = fl_X7_wet_39 m w _ (nI (c + 1))
      rw [fl_X7_wet_39, hW.1, if_neg (nI_ge hc (by omega)), h2]
      cases ht : a.testBit c
      · rw [if_pos (h7f ha8 (by omega) ht), sm_f ht, Int32.add_zero, nI_1]
      · rw [if_neg (h7t ha8 (by omega) ht), sm_t ht, s_firm7 w (by omega)]
        dsimp only
        rw [nI_1])
    n 300 0 0 (by omega) (by omega) rfl
  rw [q] at e
  exact e
theorem ko_wet {kd hd bd pt pn w : Nat → Int32} {sz ps t wars wet day drawn : Int32} (H : KR kd hd bd pt sz pn ps t wars wet day drawn w) (a1 : Int32) :
    ∃ q1 q2, f_X6_wet kd hd pn ps t wars wet day drawn a1 = some q1 ∧ f_X7_wet w a1 = some q2 ∧ q1.1 = q2.1 ∧ KR kd hd bd pt sz q1.2.1 q1.2.2.1 t wars q1.2.2.2 day drawn q2.2 := by
  have H0 := H
  obtain ⟨n, k, rfl, rfl, hC, hW, hG, hH, hP⟩ := H
  have hn := hC.1
  unfold f_X6_wet f_X7_wet
  rw [kb_in7]
  by_cases c1 : f_X6_isWithin a1 (0 : Int32) (1 : Int32) = 0
  · rw [if_pos c1, if_pos c1]; exact ⟨_, _, rfl, rfl, rfl, H0⟩
  rw [if_neg c1, if_neg c1]
  obtain ⟨pn', k', w', e1, e2, hP', hw'⟩ := s_rem hP hG hH
  obtain ⟨⟨x, hx, rfl⟩, gw, gd, gr⟩ := hG
  obtain ⟨z0, z1, z2, z3, z4⟩ := hH
  have hx8 : x < 256 := Nat.lt_of_lt_of_le hx (p8 hn)
  rw [show w 3 = wet from z3]
  by_cases c2 : wet = a1
  · rw [if_pos c2, if_pos c2]; exact ⟨_, _, rfl, rfl, rfl, H0⟩
  rw [if_neg c2, if_neg c2, e1, e2]
  dsimp only
  have hW' : KW n kd hd bd pt (upd w' 3 a1) := KW_of hn hW (fun i h1 h2 => by rw [upd_ne (by omega)]; exact hw' i h2)
  have e3 := s_tog7 hC hW' hx ((upd_ne (by omega)).trans ((hw' 2 (by omega)).trans z2))
  rw [show upd w' 3 a1 3 = a1 from upd_eq, show upd w' 3 a1 0 = day from (upd_ne (by omega)).trans ((hw' 0 (by omega)).trans z0)] at e3
  rw [s_tog6 kd hd a1 day hx8, e3]
  obtain ⟨j, -, hj, rfl⟩ := kb_win (a := 0) (b := 1) (by omega) (by omega) c1
  have hj2 : nI j = 0 ∨ nI j = 1 := by
    have hh : j = 0 ∨ j = 1 := by omega
    rcases hh with e | e <;> subst e
    · exact Or.inl rfl
    · exact Or.inr rfl
  refine ⟨_, _, rfl, rfl, rfl, ?_⟩
  dsimp only
  refine KR_mk hC hW' ⟨⟨x, hx, rfl⟩, hj2, gd, gr⟩ ⟨?_, ?_, ?_, upd_eq, ?_⟩ (KP_of hP' (fun i h1 h2 => upd_ne (by omega)))
  · exact (upd_ne (by omega)).trans ((hw' 0 (by omega)).trans z0)
  · exact (upd_ne (by omega)).trans ((hw' 1 (by omega)).trans z1)
  · exact (upd_ne (by omega)).trans ((hw' 2 (by omega)).trans z2)
  · exact (upd_ne (by omega)).trans ((hw' 4 (by omega)).trans z4)
theorem n9999 : (Int16.ofInt 9999).toInt32 = nI 9999 := by decide
theorem ko_days {kd hd bd pt pn w : Nat → Int32} {sz ps t wars wet day drawn : Int32} (H : KR kd hd bd pt sz pn ps t wars wet day drawn w) (a1 : Int32) :
    ∃ q1 q2, f_X6_days pn ps t wars wet day drawn a1 = some q1 ∧ f_X7_days w a1 = some q2 ∧ q1.1 = q2.1 ∧ KR kd hd bd pt sz q1.2.1 q1.2.2.1 t wars wet q1.2.2.2 drawn q2.2 := by
  have H0 := H
  obtain ⟨n, k, rfl, rfl, hC, hW, hG, hH, hP⟩ := H
  have hn := hC.1
  unfold f_X6_days f_X7_days
  rw [kb_in7]
  by_cases c1 : f_X6_isWithin a1 (1 : Int32) (99 : Int32) = 0
  · rw [if_pos c1, if_pos c1]; exact ⟨_, _, rfl, rfl, rfl, H0⟩
  rw [if_neg c1, if_neg c1]
  obtain ⟨pn', k', w', e1, e2, hP', hw'⟩ := s_rem hP hG hH
  obtain ⟨gx, gw, ⟨d, hd', rfl⟩, gr⟩ := hG
  obtain ⟨z0, z1, z2, z3, z4⟩ := hH
  obtain ⟨j, hj1, hj, rfl⟩ := kb_win (a := 1) (b := 99) (by omega) (by omega) c1
  rw [show w 0 = nI d from z0, nI_add, n9999]
  by_cases c2 : nI (d + j) ≤ nI 9999
  · rw [if_pos c2, if_pos c2, e1, e2]
    dsimp only
    rw [show w' 0 = nI d from (hw' 0 (by omega)).trans z0, nI_add]
    have hdj := (nI_leI (by omega) (by omega)).mp c2
    refine ⟨_, _, rfl, rfl, (by dsimp only; exact upd_eq.symm), ?_⟩
    dsimp only
    refine KR_mk hC (KW_of hn hW (fun i h1 h2 => by rw [upd_ne (by omega)]; exact hw' i h2)) ⟨gx, gw, ⟨d + j, hdj, rfl⟩, gr⟩ ⟨upd_eq, ?_, ?_, ?_, ?_⟩ (KP_of hP' (fun i h1 h2 => upd_ne (by omega)))
    · exact (upd_ne (by omega)).trans ((hw' 1 (by omega)).trans z1)
    · exact (upd_ne (by omega)).trans ((hw' 2 (by omega)).trans z2)
    · exact (upd_ne (by omega)).trans ((hw' 3 (by omega)).trans z3)
    · exact (upd_ne (by omega)).trans ((hw' 4 (by omega)).trans z4)
  · rw [if_neg c2, if_neg c2]; exact ⟨_, _, rfl, rfl, rfl, H0⟩
theorem ko_undo {kd hd bd pt pn w : Nat → Int32} {sz ps t wars wet day drawn : Int32} (H : KR kd hd bd pt sz pn ps t wars wet day drawn w) :
    ∃ q1 q2, f_X6_undo pn ps t wars wet day drawn = some q1 ∧ f_X7_undo w = some q2 ∧ q1.1 = q2.1 ∧ KR kd hd bd pt sz pn q1.2.1 q1.2.2.1 q1.2.2.2.1 q1.2.2.2.2.1 q1.2.2.2.2.2.1 q1.2.2.2.2.2.2 q2.2 := by
  have H0 := H
  obtain ⟨n, k, rfl, rfl, hC, hW, hG, hH, hP⟩ := H
  have hn := hC.1
  have hk := hP.1
  unfold f_X6_undo f_X7_undo f_X4_takeBack
  rw [hP.2.1]
  by_cases k0 : k = 0
  · subst k0
    rw [if_pos (by decide), if_pos (by decide)]
    dsimp only
    rw [if_pos rfl]
    exact ⟨_, _, rfl, rfl, rfl, H0⟩
  obtain ⟨j, rfl⟩ : ∃ j, k = j + 1 := ⟨k - 1, by omega⟩
  have m5 : nI j * (5 : Int32) = nI (5 * j) := by
    have e : nI j * (5 : Int32) = nI (j * 5) := pk_mul j 5
    rw [e, Nat.mul_comm]
  have a1 : nI (5 * j) + (1 : Int32) = nI (5 * j + 1) := nI_add (5 * j) 1
  have a2 : nI (5 * j) + (2 : Int32) = nI (5 * j + 2) := nI_add (5 * j) 2
  have a3 : nI (5 * j) + (3 : Int32) = nI (5 * j + 3) := nI_add (5 * j) 3
  have a4 : nI (5 * j) + (4 : Int32) = nI (5 * j + 4) := nI_add (5 * j) 4
  have l8 : nI (j + 1) ≤ (8 : Int32) := nI_le (b := 8) (by omega) (by decide)
  rw [if_neg (nI_nle (by omega) (by omega)), if_pos l8, if_neg (nI_ne0 (by omega) (by omega)), nI_pred, m5, a1, a2, a3, a4,
    if_neg (nI_in (by omega) (by decide)), if_neg (nI_in (by omega) (by decide)), if_neg (nI_in (by omega) (by decide)), if_neg (nI_in (by omega) (by decide)), if_neg (nI_in (by omega) (by decide)), nI_clamp (n := 5 * j) (by omega), nI_clamp (n := 5 * j + 1) (by omega), nI_clamp (n := 5 * j + 2) (by omega), nI_clamp (n := 5 * j + 3) (by omega), nI_clamp (n := 5 * j + 4) (by omega)]
  dsimp only
  rw [if_neg (by decide), show upd w 38 (nI j) 38 = nI j from upd_eq]
  have m39 : (39 : Int32) + (5 : Int32) * nI j = nI (39 + 5 * j) := by
    have e : (5 : Int32) * nI j = nI (5 * j) := pk_mul 5 j
    rw [e]
    exact nI_add 39 (5 * j)
  obtain ⟨w', e1, q, z⟩ := s_bring1 (39 + 5 * j) 0 5 (by omega) (by omega) (by omega) (upd w 38 (nI j))
  have e1' : f_X7_bring_1 (upd w 38 (nI j)) (nI (39 + 5 * j)) (0 : Int32) (5 : Int32) = some w' := e1
  rw [m39, e1']
  obtain ⟨g, h0, h1, h2, h3, h4⟩ := hP.2.2 j (by omega)
  refine ⟨_, _, rfl, rfl, (by dsimp only; rw [z 38 (by omega), upd_eq]), ?_⟩
  dsimp only
  refine KR_mk (k := j) hC (KW_of hn hW (fun i i1 i2 => by rw [z i (by omega), upd_ne (by omega)])) g ⟨?_, ?_, ?_, ?_, ?_⟩ ⟨by omega, (z 38 (by omega)).trans upd_eq, ?_⟩
  · exact ((q 0 (by omega)).trans (upd_ne (by omega))).trans h0
  · exact ((q 1 (by omega)).trans (upd_ne (by omega))).trans h1
  · exact ((q 2 (by omega)).trans (upd_ne (by omega))).trans h2
  · exact ((q 3 (by omega)).trans (upd_ne (by omega))).trans h3
  · exact ((q 4 (by omega)).trans (upd_ne (by omega))).trans h4
  · intro i hi
    obtain ⟨g', y0, y1, y2, y3, y4⟩ := hP.2.2 i (by omega)
    exact ⟨g', (z _ (by omega)).trans ((upd_ne (by omega)).trans y0), (z _ (by omega)).trans ((upd_ne (by omega)).trans y1), (z _ (by omega)).trans ((upd_ne (by omega)).trans y2), (z _ (by omega)).trans ((upd_ne (by omega)).trans y3), (z _ (by omega)).trans ((upd_ne (by omega)).trans y4)⟩
theorem ko_falls {kd hd bd pt pn w : Nat → Int32} {sz ps t wars wet day drawn : Int32} (H : KR kd hd bd pt sz pn ps t wars wet day drawn w) (fm : Nat → Int32) (a1 : Int32) :
    ∃ q1 q2, f_X6_falls kd hd bd fm t wet day a1 = some q1 ∧ f_X7_falls w a1 = some q2 ∧ q1.1 = q2 := by
  obtain ⟨n, k, rfl, rfl, hC, hW, hG, hH, hP⟩ := H
  have hn := hC.1
  unfold f_X6_falls f_X7_falls f_X6_isForce
  rw [kb_in7]
  by_cases c1 : f_X6_isWithin a1 (0 : Int32) (99 : Int32) = 0
  · rw [if_pos c1, if_pos c1]; exact ⟨_, _, rfl, rfl, rfl⟩
  rw [if_neg c1, if_neg c1]
  obtain ⟨⟨x, hx, rfl⟩, gw, gd, gr⟩ := hG
  obtain ⟨z0, z1, z2, z3, z4⟩ := hH
  have hx8 : x < 256 := Nat.lt_of_lt_of_le hx (p8 hn)
  obtain ⟨f', e, h⟩ := s_weigh kd hd fm wet day
  have e7 := s_falls7 hC hW hx z2 a1
  rw [show w 3 = wet from z3, show w 0 = day from z0] at e7
  rw [e, e7]
  dsimp only
  rw [s_falls6 hx8 h]
  exact ⟨_, _, rfl, rfl, rfl⟩
