/-! 5d: felt answers alike -/
theorem s_get {ss : Nat → Int32} {s z j : Nat} (hs : s < 4) (hz : z ≤ 24) (e : ss s = nI z) (hj : j < z) (si : Nat → Int64) : f_X5_get ss si (nI s) (nI j) = some (si (24 * s + j)) := by
  unfold f_X5_get
  rcases s_ins hs hz e (nI j) (nI 1) with ⟨k1, k2⟩ | ⟨i', n', -, -, -, k1, -⟩
  · exfalso
    unfold f_X7_isPart at k2
    rw [if_neg (nI_pos (by omega)), if_neg (nI_pos (by omega)), if_neg (nI_nlt (by omega) (by omega)), pk_sub (by omega), if_neg (nI_nlt (by omega) (by omega))] at k2
    exact absurd k2 (by decide)
  · have k1' : f_X5_isInside ss (nI s) (nI j) (1 : Int32) = some 1 := k1
    rw [k1']
    dsimp only
    rw [if_neg n10, m24, if_neg (nI_in (by omega) (by decide)), nI_clamp (by omega)]
theorem lg_sym (a b : Int64) : (lg_cmp a b = 0) ↔ (lg_cmp b a = 0) := by
  rw [lg_cmp_eq, lg_cmp_eq]
  exact ⟨fun h => h.symm, fun h => h.symm⟩
theorem ko_felt {kd hd bd pt pn w : Nat → Int32} {sz ps t wars wet day drawn : Int32} (H : KR kd hd bd pt sz pn ps t wars wet day drawn w) {sl ss : Nat → Int32} {si : Nat → Int64} {ml ms : Nat → Int32} {mi : Nat → Int64} (S : KS sl ss si ml ms mi) (fm tr : Nat → Int32) (a1 a2 a3 a4 a5 a6 : Int32) :
    ∃ q1 q2, f_X6_felt kd hd bd sz fm t wet day sl ss si a1 a2 a3 a4 a5 a6 = some q1 ∧ f_X7_felt ml ms mi w tr a1 a2 a3 a4 a5 a6 = some q2 ∧ q1.1 = q2.1 := by
  obtain ⟨n, k, rfl, rfl, hC, hW, hG, hH, hP⟩ := H
  have hn := hC.1
  obtain ⟨⟨x, hx, rfl⟩, gw, gd, gr⟩ := hG
  have h2 : w 2 = nI x := hH.2.2.1
  unfold f_X6_felt f_X7_felt f_X6_isSheet f_X6_isLane f_X7_isSheet
  simp only [kb_in7]
  rcases s_isCl hn hW.1 a1 with ⟨y1, y2⟩ | ⟨c, hc, rfl, y1, y2⟩
  · rw [if_pos y1, if_pos y2]; exact ⟨_, _, rfl, rfl, rfl⟩
  rw [if_neg y1, if_neg y2]
  by_cases c2 : f_X6_isWithin a2 (0 : Int32) (3 : Int32) = 0
  · rw [if_pos c2, if_pos c2]; exact ⟨_, _, rfl, rfl, rfl⟩
  rw [if_neg c2, if_neg c2]
  by_cases c3 : f_X6_isWithin a3 (0 : Int32) (3 : Int32) = 0
  · rw [if_pos c3, if_pos c3]; exact ⟨_, _, rfl, rfl, rfl⟩
  rw [if_neg c3, if_neg c3]
  by_cases c5 : f_X6_isWithin a5 (1 : Int32) (6 : Int32) = 0
  · rw [if_pos c5, if_pos c5]; exact ⟨_, _, rfl, rfl, rfl⟩
  rw [if_neg c5, if_neg c5]
  by_cases c6' : f_X6_isWithin a6 (0 : Int32) (1 : Int32) = 0
  · rw [if_pos c6', if_pos c6']; exact ⟨_, _, rfl, rfl, rfl⟩
  rw [if_neg c6', if_neg c6']
  obtain ⟨s, -, hs, rfl⟩ := kb_win (a := 0) (b := 3) (by omega) (by omega) c2
  obtain ⟨N, -, hN, rfl⟩ := kb_win (a := 1) (b := 6) (by omega) (by omega) c5
  obtain ⟨wh, -, hwh, rfl⟩ := kb_win (a := 0) (b := 1) (by omega) (by omega) c6'
  have hs4 : s < 4 := by omega
  rcases s_fault S hs4 a3 a4 ((2 : Int32) * nI N) with ⟨r, h0, k1, k2⟩ | ⟨z, i, N2, hz, ez, rfl, e3, hin, e4, k1, k2⟩
  · rw [k1, k2]
    dsimp only
    rw [if_neg h0, if_neg h0]
    exact ⟨_, _, rfl, rfl, rfl⟩
  have hN2 : N2 = 2 * N := by
    have e5 : (2 : Int32) * nI N = nI (2 * N) := pk_mul 2 N
    rw [e5] at e3
    by_cases h : N2 < 2 ^ 31
    · exact ((nI_eq (by omega) h).mp e3).symm
    · omega
  subst hN2
  rw [k1, k2]
  dsimp only
  rw [if_pos rfl, if_pos rfl]
  obtain ⟨-, -, z', hz', ez', -, hit⟩ := S s hs4
  have hzz : z' = z := (nI_eq (by omega) (by omega)).mp (ez'.symm.trans ez)
  subst hzz
  have p2 : ∀ v, nI i + (2 : Int32) * nI v = nI (i + 2 * v) := by
    intro v
    have e5 : (2 : Int32) * nI v = nI (2 * v) := pk_mul 2 v
    rw [e5, nI_add]
  have ixv : ∀ v, (((24 : Int32) * nI s + nI i) + (2 : Int32) * nI v) = nI (24 * s + i + 2 * v) := by
    intro v
    have e5 : (2 : Int32) * nI v = nI (2 * v) := pk_mul 2 v
    rw [m24', e5, nI_add]
  have ea : ∀ v, v < N → mi (24 * s + i + 2 * v) = si (24 * s + (i + 2 * v)) := by
    intro v hv
    have h := hit (i + 2 * v) (by omega)
    rw [← h]
    congr 1
    omega
  have eb : ∀ v, v < N → mi (24 * s + i + 2 * v + 1) = si (24 * s + (i + 2 * v + 1)) := by
    intro v hv
    have h := hit (i + 2 * v + 1) (by omega)
    rw [← h]
    congr 1
    omega
  -- are they forces
  have force : ∀ m fuel v, v + m = N → m < fuel → (fl_X6_areForces_3 fuel ss si (nI s) (nI i) (nI N) (nI v) = some 0 ∧ fl_X7_felt_72 fuel ml ms mi w tr (nI c) (nI s) (nI i) (nI N) (nI wh) (nI v) = some (-2, tr)) ∨ (fl_X6_areForces_3 fuel ss si (nI s) (nI i) (nI N) (nI v) = some 1 ∧ fl_X7_felt_72 fuel ml ms mi w tr (nI c) (nI s) (nI i) (nI N) (nI wh) (nI v) = fl_X7_felt_130 300 ml ms mi w tr (nI c) (nI s) (nI i) (nI N) (nI wh) (0 : Int32) (nI wh)) := by
    intro m
    induction m with
    | zero =>
      intro fuel v hv hf
      obtain ⟨g, rfl⟩ : ∃ g, fuel = g + 1 := ⟨fuel - 1, by omega⟩
      have e : v = N := by omega
      subst e
      right
      rw [fl_X6_areForces_3, fl_X7_felt_72, if_pos (Int32.le_refl _), if_pos (Int32.le_refl _)]
      exact ⟨rfl, rfl⟩
    | succ m ih =>
      intro fuel v hv hf
      obtain ⟨g, rfl⟩ : ∃ g, fuel = g + 1 := ⟨fuel - 1, by omega⟩
      rw [fl_X6_areForces_3, fl_X7_felt_72, if_neg (nI_ge (by omega) (by omega)), if_neg (nI_ge (by omega) (by omega)), p2, s_get hs4 hz ez (by omega), ixv, if_neg (nI_in (by omega) (by decide)), nI_clamp (by omega), ea v (by omega), nI_1]
      dsimp only
      by_cases g1 : lg_cmp (si (24 * s + (i + 2 * v))) (0 : Int64) < 0
      · rw [if_pos g1, if_pos g1]
        exact Or.inl ⟨rfl, rfl⟩
      rw [if_neg g1, if_neg g1]
      by_cases g2 : lg_cmp (si (24 * s + (i + 2 * v))) (Int64.ofNat 99) ≤ 0
      · rw [if_pos g2, if_pos g2]
        exact ih g (v + 1) (by omega) (by omega)
      · rw [if_neg g2, if_neg g2]
        exact Or.inl ⟨rfl, rfl⟩
  -- once a row has failed
  have dead : ∀ (ko : (Nat → Int32) → (Nat → Int32) → (Nat → Int64) → (Nat → Int32) → (Nat → Int32) → Int32 → Int32 → Int32 → Int32 → Int32 → Int32 → Int32 → Option (Int32 × (Nat → Int32))) (v8 v9 : Int32) (u : Nat → Int32), ∀ m fuel v, v + m = N → m < fuel → fl_X7_felt_177 ko fuel ml ms mi w u (nI c) (nI s) (nI i) (nI N) (nI wh) v8 v9 (0 : Int32) (nI v) = ko ml ms mi w u (nI c) (nI s) (nI i) (nI N) (nI wh) v8 (v9 + 1) := by
    intro ko v8 v9 u m
    induction m with
    | zero =>
      intro fuel v hv hf
      obtain ⟨g, rfl⟩ : ∃ g, fuel = g + 1 := ⟨fuel - 1, by omega⟩
      have e : v = N := by omega
      subst e
      rw [fl_X7_felt_177, if_pos (Int32.le_refl _), if_pos rfl, or0]
    | succ m ih =>
      intro fuel v hv hf
      obtain ⟨g, rfl⟩ : ∃ g, fuel = g + 1 := ⟨fuel - 1, by omega⟩
      rw [fl_X7_felt_177, if_neg (nI_ge (by omega) (by omega)), ixv, if_neg (nI_in (by omega) (by decide)), if_pos rfl, nI_1]
      exact ih g (v + 1) (by omega) (by omega)
  -- one value
  have told : ∀ (ko : (Nat → Int32) → (Nat → Int32) → (Nat → Int64) → (Nat → Int32) → (Nat → Int32) → Int32 → Int32 → Int32 → Int32 → Int32 → Int32 → Int32 → Option (Int32 × (Nat → Int32))) (kd' hd' fm' : Nat → Int32), KC n kd' hd' bd pt → (∀ c, c < 8 → fm' c = f_X4_firmBy wet (kd' c) (hd' c) day) → ∀ (v8 v9 : Int32), ∀ m fuel v a (u : Nat → Int32), v + m = N → m < fuel → a < 2 ^ n → KW n kd' hd' bd pt u → u 2 = nI a → u 3 = wet → u 0 = day →
      ∃ u', (fl_X6_isAsTold_12 fuel bd fm' (nI x) ss si (nI s) (nI i) (nI N) (nI a) (nI v) = some 0 ∧ fl_X7_felt_177 ko fuel ml ms mi w u (nI c) (nI s) (nI i) (nI N) (nI wh) v8 v9 (1 : Int32) (nI v) = ko ml ms mi w u' (nI c) (nI s) (nI i) (nI N) (nI wh) v8 (v9 + 1)) ∨ (fl_X6_isAsTold_12 fuel bd fm' (nI x) ss si (nI s) (nI i) (nI N) (nI a) (nI v) = some 1 ∧ fl_X7_felt_177 ko fuel ml ms mi w u (nI c) (nI s) (nI i) (nI N) (nI wh) v8 v9 (1 : Int32) (nI v) = ko ml ms mi w u' (nI c) (nI s) (nI i) (nI N) (nI wh) (v8 ||| ((1 : Int32) <<< (v9 &&& (31 : Int32)))) (v9 + 1)) := by
    intro ko kd' hd' fm' hC' hfm v8 v9 m
    induction m with
    | zero =>
      intro fuel v a u hv hf _ _ _ _ _
      obtain ⟨g, rfl⟩ : ∃ g, fuel = g + 1 := ⟨fuel - 1, by omega⟩
      have e : v = N := by omega
      subst e
      refine ⟨u, Or.inr ?_⟩
      rw [fl_X6_isAsTold_12, fl_X7_felt_177, if_pos (Int32.le_refl _), if_pos (Int32.le_refl _), if_neg n10]
      exact ⟨rfl, rfl⟩
    | succ m ih =>
      intro fuel v a u hv hf ha hWu u2 u3 u0
      obtain ⟨g, rfl⟩ : ∃ g, fuel = g + 1 := ⟨fuel - 1, by omega⟩
      have ha8 : a < 256 := Nat.lt_of_lt_of_le ha (p8 hn)
      have ep := s_pullIn hC' hWu ha u2 (si (24 * s + (i + 2 * v))).toInt32
      rw [u3, u0] at ep
      have hfl := fallN_lt kd' hd' bd wet day a (si (24 * s + (i + 2 * v))).toInt32
      have e1 : nI (24 * s + i + 2 * v) + (1 : Int32) = nI (24 * s + i + 2 * v + 1) := nI_1 _
      have e2 : nI (i + 2 * v) + (1 : Int32) = nI (i + 2 * v + 1) := nI_1 _
      rw [fl_X6_isAsTold_12, fl_X7_felt_177, if_neg (nI_ge (by omega) (by omega)), if_neg (nI_ge (by omega) (by omega)), p2, s_get hs4 hz ez (by omega), ixv, if_neg (nI_in (by omega) (by decide)), if_neg n10, nI_clamp (n := 24 * s + i + 2 * v) (by omega), ea v (by omega), e_pull1, ep, e1, e2]
      dsimp only
      rw [s_falls6 ha8 hfm, bcnt _ hfl]
      dsimp only
      rw [s_get hs4 hz ez (by omega), if_neg (nI_in (by omega) (by decide)), nI_clamp (n := 24 * s + i + 2 * v + 1) (by omega), eb v (by omega), kb_dif a ha8 _ hfl, nI_1]
      dsimp only
      by_cases hq : lg_cmp (si (24 * s + (i + 2 * v + 1))) (f_J6_bitCount (nI (fallN kd' hd' bd wet day a (si (24 * s + (i + 2 * v))).toInt32))).toInt64 = 0
      · rw [if_pos hq, if_pos ((lg_sym _ _).mp hq)]
        exact ih g (v + 1) _ _ (by omega) (by omega) (sd_lt ha) (KW_of hn hWu (fun j h1 h2 => upd_ne (by omega))) upd_eq ((upd_ne (by omega)).trans u3) ((upd_ne (by omega)).trans u0)
      · rw [if_neg hq, if_neg (fun h => hq ((lg_sym _ _).mpr h))]
        exact ⟨upd u 2 (nI (sd a (fallN kd' hd' bd wet day a (si (24 * s + (i + 2 * v))).toInt32))), Or.inl ⟨rfl, dead ko v8 v9 _ m g (v + 1) (by omega) (by omega)⟩⟩
  obtain ⟨f', ef, hf'⟩ := s_weigh kd hd fm wet day
  have kx : ¬ (nI c < 0 ∨ 8 ≤ (nI c).toNatClampNeg) := nI_in (by omega) (by decide)
  have cl : (nI c).toNatClampNeg = c := nI_clamp (by omega)
  rcases force N 300 0 (by omega) (by omega) with ⟨f1, f2⟩ | ⟨f1, f2⟩
  · have f1' : f_X6_areForces ss si (nI s) (nI i) (nI N) = some 0 := f1
    have f2' : fl_X7_felt_72 300 ml ms mi w tr (nI c) (nI s) (nI i) (nI N) (nI wh) (0 : Int32) = some (-2, tr) := f2
    rw [f1', f2']
    exact ⟨_, _, rfl, rfl, rfl⟩
  have f1' : f_X6_areForces ss si (nI s) (nI i) (nI N) = some 1 := f1
  have f2' : fl_X7_felt_72 300 ml ms mi w tr (nI c) (nI s) (nI i) (nI N) (nI wh) (0 : Int32) = fl_X7_felt_130 300 ml ms mi w tr (nI c) (nI s) (nI i) (nI N) (nI wh) (0 : Int32) (nI wh) := f2
  rw [f1', f2']
  dsimp only
  rw [if_neg n10]
  by_cases hw0 : wh = 0
  · subst hw0
    have kinds : ∀ m fuel v (fm tr : Nat → Int32) (st : Int32), v + m = 5 → m < fuel → (∀ e, e < 8 → e ≠ c → fm e = f_X4_firmBy wet (kd e) (hd e) day) → ∃ q1 q2, fl_X6_kindsFelt_13 fuel kd hd bd fm (nI x) wet day ss si (nI c) (nI s) (nI i) (nI N) st (nI v) = some q1 ∧ fl_X7_felt_130 fuel ml ms mi w tr (nI c) (nI s) (nI i) (nI N) (nI 0) st (nI v) = some q2 ∧ q1.1 = q2.1 := by
      intro m
      induction m with
      | zero =>
        intro fuel v fm tr st hv hfu _
        obtain ⟨g, rfl⟩ : ∃ g, fuel = g + 1 := ⟨fuel - 1, by omega⟩
        have e : v = 5 := by omega
        subst e
        rw [fl_X6_kindsFelt_13, fl_X7_felt_130, if_pos (by decide), if_pos (show nI 0 = (0 : Int32) from rfl), if_pos (by decide)]
        exact ⟨_, _, rfl, rfl, rfl⟩
      | succ m ih =>
        intro fuel v fm tr st hv hfu hfm
        obtain ⟨g, rfl⟩ : ∃ g, fuel = g + 1 := ⟨fuel - 1, by omega⟩
        have l5 : ¬ (5 : Int32) ≤ nI v := nI_ge (b := 5) (by omega) (by omega)
        obtain ⟨u, eu, hu⟩ := s_begin w tr
        have k6 : ¬ (nI (6 + c) < 0 ∨ 79 ≤ (nI (6 + c)).toNatClampNeg) := nI_in (by omega) (by decide)
        have z0 : nI 0 = (0 : Int32) := rfl
        rw [fl_X6_kindsFelt_13, if_neg l5, if_neg kx, if_neg kx, cl, fl_X7_felt_130, eu, c6]
        dsimp only
        simp only [if_pos z0, if_neg l5, if_neg k6]
        rw [nI_clamp (n := 6 + c) (by omega)]
        have hC' : KC n (upd kd c (nI v)) hd bd pt := ⟨hn, fun e he => by
          obtain ⟨x1, x2, x3, x4⟩ := hC.2 e he
          refine ⟨?_, x2, x3, x4⟩
          by_cases ee : e = c
          · subst ee; exact ⟨v, by omega, upd_eq⟩
          · rw [upd_ne ee]; exact x1⟩
        have hfm' : ∀ e, e < 8 → upd fm c (f_X4_firmBy wet (nI v) (hd c) day) e = f_X4_firmBy wet (upd kd c (nI v) e) (hd e) day := by
          intro e he
          by_cases ee : e = c
          · subst ee; rw [upd_eq, upd_eq]
          · rw [upd_ne ee, upd_ne ee]; exact hfm e he ee
        have hKW : KW n (upd kd c (nI v)) hd bd pt (upd u (6 + c) (nI v)) := by
          refine ⟨(upd_ne (by omega)).trans ((hu 5 (by omega)).trans hW.1), fun e he => ?_⟩
          obtain ⟨x1, x2, x3, x4⟩ := hW.2 e he
          refine ⟨?_, (upd_ne (by omega)).trans ((hu _ (by omega)).trans x2), (upd_ne (by omega)).trans ((hu _ (by omega)).trans x3), (upd_ne (by omega)).trans ((hu _ (by omega)).trans x4)⟩
          by_cases ee : e = c
          · subst ee; exact upd_eq.trans upd_eq.symm
          · exact (upd_ne (by omega)).trans ((hu _ (by omega)).trans (x1.trans (upd_ne ee).symm))
        obtain ⟨u', ht⟩ := told (fl_X7_felt_130 g) (upd kd c (nI v)) hd (upd fm c (f_X4_firmBy wet (nI v) (hd c) day)) hC' hfm' st (nI v) N 300 0 x (upd u (6 + c) (nI v)) (by omega) (by omega) hx hKW ((upd_ne (by omega)).trans ((hu 2 (by omega)).trans h2)) ((upd_ne (by omega)).trans ((hu 3 (by omega)).trans hH.2.2.2.1)) ((upd_ne (by omega)).trans ((hu 0 (by omega)).trans hH.1))
        have hfm2 : ∀ e, e < 8 → e ≠ c → upd fm c (f_X4_firmBy wet (nI v) (hd c) day) e = f_X4_firmBy wet (kd e) (hd e) day := fun e he ee => (upd_ne ee).trans (hfm e he ee)
        rcases ht with ⟨t6, t7⟩ | ⟨t6, t7⟩
        · have t6' : f_X6_isAsTold bd (upd fm c (f_X4_firmBy wet (nI v) (hd c) day)) (nI x) ss si (nI s) (nI i) (nI N) = some 0 := t6
          have t7' : fl_X7_felt_177 (fl_X7_felt_130 g) 300 ml ms mi w (upd u (6 + c) (nI v)) (nI c) (nI s) (nI i) (nI N) (nI 0) st (nI v) (1 : Int32) (0 : Int32) = _ := t7
          rw [t6', t7', nI_1]
          dsimp only
          rw [if_pos rfl]
          exact ih g (v + 1) _ u' st (by omega) (by omega) hfm2
        · have t6' : f_X6_isAsTold bd (upd fm c (f_X4_firmBy wet (nI v) (hd c) day)) (nI x) ss si (nI s) (nI i) (nI N) = some 1 := t6
          have t7' : fl_X7_felt_177 (fl_X7_felt_130 g) 300 ml ms mi w (upd u (6 + c) (nI v)) (nI c) (nI s) (nI i) (nI N) (nI 0) st (nI v) (1 : Int32) (0 : Int32) = _ := t7
          rw [t6', t7', nI_1]
          dsimp only
          rw [if_neg n10]
          exact ih g (v + 1) _ u' _ (by omega) (by omega) hfm2
    obtain ⟨q1, q2, e1, e2, e3'⟩ := kinds 5 300 0 f' tr 0 (by omega) (by omega) (fun e he _ => hf' e he)
    have e1' : f_X6_kindsFelt kd hd bd fm (nI x) wet day ss si (nI c) (nI s) (nI i) (nI N) = some q1 := by
      unfold f_X6_kindsFelt
      rw [ef]
      exact e1
    rw [if_pos (show nI 0 = (0 : Int32) from rfl), e1', e2]
    exact ⟨_, _, rfl, rfl, e3'⟩
  · have e1w : wh = 1 := by omega
    subst e1w
    have holds : ∀ m fuel v (fm tr : Nat → Int32) (st : Int32), v + m = 21 → 1 ≤ v → m < fuel → (∀ e, e < 8 → e ≠ c → fm e = f_X4_firmBy wet (kd e) (hd e) day) → ∃ q1 q2, fl_X6_holdsFelt_13 fuel kd hd bd fm (nI x) wet day ss si (nI c) (nI s) (nI i) (nI N) st (nI v) = some q1 ∧ fl_X7_felt_130 fuel ml ms mi w tr (nI c) (nI s) (nI i) (nI N) (nI 1) st (nI v) = some q2 ∧ q1.1 = q2.1 := by
      intro m
      induction m with
      | zero =>
        intro fuel v fm tr st hv _ hfu _
        obtain ⟨g, rfl⟩ : ∃ g, fuel = g + 1 := ⟨fuel - 1, by omega⟩
        have e : v = 21 := by omega
        subst e
        rw [fl_X6_holdsFelt_13, fl_X7_felt_130, if_pos (by decide), if_neg (show ¬ nI 1 = (0 : Int32) by decide), if_pos (by decide)]
        exact ⟨_, _, rfl, rfl, rfl⟩
      | succ m ih =>
        intro fuel v fm tr st hv hv1 hfu hfm
        obtain ⟨g, rfl⟩ : ∃ g, fuel = g + 1 := ⟨fuel - 1, by omega⟩
        have l20 : ¬ (20 : Int32) < nI v := nI_nlt (a := 20) (by omega) (by omega)
        have l21 : ¬ (21 : Int32) ≤ nI v := nI_ge (b := 21) (by omega) (by omega)
        obtain ⟨u, eu, hu⟩ := s_begin w tr
        have k14 : ¬ (nI (14 + c) < 0 ∨ 79 ≤ (nI (14 + c)).toNatClampNeg) := nI_in (by omega) (by decide)
        have z0 : ¬ nI 1 = (0 : Int32) := by decide
        rw [fl_X6_holdsFelt_13, if_neg l20, if_neg kx, if_neg kx, cl, fl_X7_felt_130, eu, c14]
        dsimp only
        simp only [if_neg z0, if_neg l21, if_neg k14]
        rw [nI_clamp (n := 14 + c) (by omega)]
        have hC' : KC n kd (upd hd c (nI v)) bd pt := ⟨hn, fun e he => by
          obtain ⟨x1, x2, x3, x4⟩ := hC.2 e he
          refine ⟨x1, ?_, x3, x4⟩
          by_cases ee : e = c
          · subst ee; exact ⟨v, by omega, by omega, upd_eq⟩
          · rw [upd_ne ee]; exact x2⟩
        have hfm' : ∀ e, e < 8 → upd fm c (f_X4_firmBy wet (kd c) (nI v) day) e = f_X4_firmBy wet (kd e) (upd hd c (nI v) e) day := by
          intro e he
          by_cases ee : e = c
          · subst ee; rw [upd_eq, upd_eq]
          · rw [upd_ne ee, upd_ne ee]; exact hfm e he ee
        have hKW : KW n kd (upd hd c (nI v)) bd pt (upd u (14 + c) (nI v)) := by
          refine ⟨(upd_ne (by omega)).trans ((hu 5 (by omega)).trans hW.1), fun e he => ?_⟩
          obtain ⟨x1, x2, x3, x4⟩ := hW.2 e he
          refine ⟨(upd_ne (by omega)).trans ((hu _ (by omega)).trans x1), ?_, (upd_ne (by omega)).trans ((hu _ (by omega)).trans x3), (upd_ne (by omega)).trans ((hu _ (by omega)).trans x4)⟩
          by_cases ee : e = c
          · subst ee; exact upd_eq.trans upd_eq.symm
          · exact (upd_ne (by omega)).trans ((hu _ (by omega)).trans (x2.trans (upd_ne ee).symm))
        obtain ⟨u', ht⟩ := told (fl_X7_felt_130 g) kd (upd hd c (nI v)) (upd fm c (f_X4_firmBy wet (kd c) (nI v) day)) hC' hfm' st (nI v) N 300 0 x (upd u (14 + c) (nI v)) (by omega) (by omega) hx hKW ((upd_ne (by omega)).trans ((hu 2 (by omega)).trans h2)) ((upd_ne (by omega)).trans ((hu 3 (by omega)).trans hH.2.2.2.1)) ((upd_ne (by omega)).trans ((hu 0 (by omega)).trans hH.1))
        have hfm2 : ∀ e, e < 8 → e ≠ c → upd fm c (f_X4_firmBy wet (kd c) (nI v) day) e = f_X4_firmBy wet (kd e) (hd e) day := fun e he ee => (upd_ne ee).trans (hfm e he ee)
        rcases ht with ⟨t6, t7⟩ | ⟨t6, t7⟩
        · have t6' : f_X6_isAsTold bd (upd fm c (f_X4_firmBy wet (kd c) (nI v) day)) (nI x) ss si (nI s) (nI i) (nI N) = some 0 := t6
          have t7' : fl_X7_felt_177 (fl_X7_felt_130 g) 300 ml ms mi w (upd u (14 + c) (nI v)) (nI c) (nI s) (nI i) (nI N) (nI 1) st (nI v) (1 : Int32) (0 : Int32) = _ := t7
          rw [t6', t7', nI_1]
          dsimp only
          rw [if_pos rfl]
          exact ih g (v + 1) _ u' st (by omega) (by omega) (by omega) hfm2
        · have t6' : f_X6_isAsTold bd (upd fm c (f_X4_firmBy wet (kd c) (nI v) day)) (nI x) ss si (nI s) (nI i) (nI N) = some 1 := t6
          have t7' : fl_X7_felt_177 (fl_X7_felt_130 g) 300 ml ms mi w (upd u (14 + c) (nI v)) (nI c) (nI s) (nI i) (nI N) (nI 1) st (nI v) (1 : Int32) (0 : Int32) = _ := t7
          rw [t6', t7', nI_1]
          dsimp only
          rw [if_neg n10]
          exact ih g (v + 1) _ u' _ (by omega) (by omega) (by omega) hfm2
    obtain ⟨q1, q2, e1, e2, e3'⟩ := holds 20 300 1 f' tr 0 (by omega) (by omega) (by omega) (fun e he _ => hf' e he)
    have e1' : f_X6_holdsFelt kd hd bd fm (nI x) wet day ss si (nI c) (nI s) (nI i) (nI N) = some q1 := by
      unfold f_X6_holdsFelt
      rw [ef]
      exact e1
    rw [if_neg (show ¬ nI 1 = (0 : Int32) by decide), e1', e2]
    exact ⟨_, _, rfl, rfl, e3'⟩
