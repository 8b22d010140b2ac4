/-! 5c: film; felt ends -/
theorem lbc : ∀ l, l < 4 → ∀ b, b < 256 → f_X5_lowestBits (nI l) (f_J6_bitCount (nI b)).toInt64 = (f_J6_bitCount (nI b)).toInt64 := by decide +kernel
theorem ko_film {kd hd bd pt pn w : Nat → Int32} {sz ps t wars wet day drawn : Int32} (H : KR kd hd bd pt sz pn ps t wars wet day drawn w) {sl ss : Nat → Int32} {si : Nat → Int64} {ml ms : Nat → Int32} {mi : Nat → Int64} (S : KS sl ss si ml ms mi) (fm tr : Nat → Int32) (a1 a2 a3 a4 a5 : Int32) :
    ∃ q1 q2, f_X6_film kd hd bd fm t wet day sl ss si a1 a2 a3 a4 a5 = some q1 ∧ f_X7_film ml ms mi w tr a1 a2 a3 a4 a5 = some q2 ∧ q1.1 = q2.1 ∧ KS sl ss q1.2.2 ml ms q2.2.1 := by
  obtain ⟨n, k, rfl, rfl, hC, hW, hG, hH, hP⟩ := H
  have hn := hC.1
  obtain ⟨⟨x, hx, rfl⟩, gw, gd, gr⟩ := hG
  have hx8 : x < 256 := Nat.lt_of_lt_of_le hx (p8 hn)
  unfold f_X6_film f_X7_film f_X6_isForce f_X6_isSheet f_X6_isLane f_X7_isSheet
  simp only [kb_in7]
  by_cases c1 : f_X6_isWithin a1 (0 : Int32) (99 : Int32) = 0
  · rw [if_pos c1, if_pos c1]; exact ⟨_, _, rfl, rfl, rfl, S⟩
  rw [if_neg c1, if_neg c1]
  by_cases c2 : f_X6_isWithin a2 (1 : Int32) (24 : Int32) = 0
  · rw [if_pos c2, if_pos c2]; exact ⟨_, _, rfl, rfl, rfl, S⟩
  rw [if_neg c2, if_neg c2]
  by_cases c3 : f_X6_isWithin a3 (0 : Int32) (3 : Int32) = 0
  · rw [if_pos c3, if_pos c3]; exact ⟨_, _, rfl, rfl, rfl, S⟩
  rw [if_neg c3, if_neg c3]
  by_cases c4 : f_X6_isWithin a4 (0 : Int32) (3 : Int32) = 0
  · rw [if_pos c4, if_pos c4]; exact ⟨_, _, rfl, rfl, rfl, S⟩
  rw [if_neg c4, if_neg c4]
  obtain ⟨s, -, hs, rfl⟩ := kb_win (a := 0) (b := 3) (by omega) (by omega) c3
  obtain ⟨l, -, hl, rfl⟩ := kb_win (a := 0) (b := 3) (by omega) (by omega) c4
  obtain ⟨N, -, hN, rfl⟩ := kb_win (a := 1) (b := 24) (by omega) (by omega) c2
  rcases s_fault S (show s < 4 by omega) (nI l) a5 (nI N) with ⟨r, h0, k1, k2⟩ | ⟨z, i, N', hz, e1, rfl, e3, hin, e4, k1, k2⟩
  · rw [k1, k2]
    dsimp only
    rw [if_neg h0, if_neg h0]
    exact ⟨_, _, rfl, rfl, rfl, S⟩
  have hNN : N = N' := by
    by_cases h : N' < 2 ^ 31
    · exact (nI_eq (by omega) h).mp e3
    · omega
  subst hNN
  obtain ⟨f', ef, hf'⟩ := s_weigh kd hd fm wet day
  obtain ⟨u, eu, hu⟩ := s_begin w tr
  rw [k1, k2, ef, eu]
  dsimp only
  rw [if_pos rfl, if_pos rfl]
  have go : ∀ m fuel v a (si mi : Nat → Int64) (u : Nat → Int32), v + m = N → m < fuel → a < 2 ^ n → KW n kd hd bd pt u → u 2 = nI a → u 3 = wet → u 0 = day → KS sl ss si ml ms mi → ∃ q1 q2, fl_X6_film_76 fuel kd hd bd f' (nI x) wet day sl ss si a1 (nI N) (nI s) (nI i) (nI a) (nI v) = some q1 ∧ fl_X7_film_66 fuel ml ms mi w u a1 (nI N) (nI s) (nI i) (nI v) = some q2 ∧ q1.1 = q2.1 ∧ KS sl ss q1.2.2 ml ms q2.2.1 := by
    intro m
    induction m with
    | zero =>
      intro fuel v a si mi u hv hfu _ _ _ _ _ S
      obtain ⟨g, rfl⟩ : ∃ g, fuel = g + 1 := ⟨fuel - 1, by omega⟩
      have e : v = N := by omega
      subst e
      rw [fl_X6_film_76, fl_X7_film_66, if_pos (Int32.le_refl _), if_pos (Int32.le_refl _)]
      exact ⟨_, _, rfl, rfl, rfl, S⟩
    | succ m ih =>
      intro fuel v a si mi u hv hfu ha hWu u2 u3 u0 S
      obtain ⟨g, rfl⟩ : ∃ g, fuel = g + 1 := ⟨fuel - 1, by omega⟩
      have ha8 : a < 256 := Nat.lt_of_lt_of_le ha (p8 hn)
      have ep := s_pullIn hC hWu ha u2 a1
      rw [u3, u0] at ep
      have hfl := fallN_lt kd hd bd wet day a a1
      have hsd : sd a (fallN kd hd bd wet day a a1) < 2 ^ n := sd_lt ha
      have hsd8 : sd a (fallN kd hd bd wet day a a1) < 256 := sd_lt ha8
      rw [fl_X6_film_76, fl_X7_film_66, if_neg (nI_ge (by omega) (by omega)), if_neg (nI_ge (by omega) (by omega)), s_falls6 ha8 hf', e_pull1, ep]
      dsimp only
      rw [upd_eq, kb_dif a ha8 _ hfl, bcnt _ hsd8, nI_add, s_put (by omega) hz e1 (by omega), e4, lbc l (by omega) _ hsd8, m24', nI_add]
      dsimp only
      rw [if_neg (nI_in (by omega) (by decide)), nI_clamp (n := 24 * s + i + v) (by omega), nI_1]
      have ek : 24 * s + (i + v) = 24 * s + i + v := by omega
      rw [ek]
      exact ih g (v + 1) _ _ _ _ (by omega) (by omega) hsd (KW_of hn hWu (fun i h1 h2 => upd_ne (by omega))) upd_eq ((upd_ne (by omega)).trans u3) ((upd_ne (by omega)).trans u0) (KS_put S _ _)
  exact go N 300 0 x si mi u (by omega) (by omega) hx (KW_of hn hW (fun i h1 h2 => hu i (by omega))) ((hu 2 (by omega)).trans hH.2.2.1) ((hu 3 (by omega)).trans hH.2.2.2.1) ((hu 0 (by omega)).trans hH.1) S
theorem t_free6 (bd : Nat → Int32) (a : Int32) : ∃ r, f_X4_freeAmong bd a = some r := by
  refine lt (fun m s v => fl_X4_freeAmong_4 m bd a s (nI v)) 8 ?_ ?_ 300 0 0 (by omega) (by omega)
  · intro m s
    refine ⟨s, ?_⟩
    show fl_X4_freeAmong_4 (m + 1) bd a s (nI 8) = some s
    rw [fl_X4_freeAmong_4, if_pos (by decide)]
  · intro m s v hv
    right
    show ∃ s', fl_X4_freeAmong_4 (m + 1) bd a s (nI v) = fl_X4_freeAmong_4 m bd a s' (nI (v + 1))
    rw [fl_X4_freeAmong_4, if_neg (kb8 hv), if_neg (nI_in hv (by decide)), nI_1]
    repeat' split
    all_goals exact ⟨_, rfl⟩
theorem t_falls6 (bd fm : Nat → Int32) (a f : Int32) : ∃ r, f_X4_fallsAmong bd fm a f = some r := by
  unfold f_X4_fallsAmong
  obtain ⟨q, e⟩ := t_free6 bd a
  rw [e]
  dsimp only
  refine lt (fun m s v => fl_X4_fallsAmong_12 m bd fm f q s (nI v)) 8 ?_ ?_ 300 0 0 (by omega) (by omega)
  · intro m s
    refine ⟨s, ?_⟩
    show fl_X4_fallsAmong_12 (m + 1) bd fm f q s (nI 8) = some s
    rw [fl_X4_fallsAmong_12, if_pos (by decide)]
  · intro m s v hv
    right
    show ∃ s', fl_X4_fallsAmong_12 (m + 1) bd fm f q s (nI v) = fl_X4_fallsAmong_12 m bd fm f q s' (nI (v + 1))
    rw [fl_X4_fallsAmong_12, if_neg (kb8 hv), if_neg (nI_in hv (by decide)), nI_1]
    repeat' split
    all_goals exact ⟨_, rfl⟩
theorem t_get {ss : Nat → Int32} {s z : Nat} (hs : s < 4) (hz : z ≤ 24) (e : ss s = nI z) (si : Nat → Int64) (i : Int32) : ∃ r, f_X5_get ss si (nI s) i = some r := by
  unfold f_X5_get
  rcases s_ins hs hz e i 1 with ⟨k1, -⟩ | ⟨i', n', rfl, e1, hin, k1, -⟩
  · rw [k1]
    exact ⟨_, rfl⟩
  · have hn1 : n' = 1 := ((nI_eq (a := 1) (b := n') (by omega) (by omega)).mp e1).symm
    rw [k1]
    dsimp only
    rw [if_neg n10, m24, if_neg (nI_in (by omega) (by decide))]
    exact ⟨_, rfl⟩
theorem t_told {ss : Nat → Int32} {s z : Nat} (hs : s < 4) (hz : z ≤ 24) (e : ss s = nI z) (bd fm : Nat → Int32) (t : Int32) (si : Nat → Int64) (i : Int32) {N : Nat} (hN : N ≤ 6) : ∃ r, f_X6_isAsTold bd fm t ss si (nI s) i (nI N) = some r := by
  refine lt (fun m a v => fl_X6_isAsTold_12 m bd fm t ss si (nI s) i (nI N) a (nI v)) N ?_ ?_ 300 t 0 (by omega) (by omega)
  · intro m a
    refine ⟨1, ?_⟩
    show fl_X6_isAsTold_12 (m + 1) bd fm t ss si (nI s) i (nI N) a (nI N) = some 1
    rw [fl_X6_isAsTold_12, if_pos (Int32.le_refl _)]
  · intro m a v hv
    show (∃ r, fl_X6_isAsTold_12 (m + 1) bd fm t ss si (nI s) i (nI N) a (nI v) = some r) ∨ ∃ s', fl_X6_isAsTold_12 (m + 1) bd fm t ss si (nI s) i (nI N) a (nI v) = fl_X6_isAsTold_12 m bd fm t ss si (nI s) i (nI N) s' (nI (v + 1))
    obtain ⟨g1, e1⟩ := t_get hs hz e si (i + (2 : Int32) * nI v)
    obtain ⟨g2, e2⟩ := t_falls6 bd fm a g1.toInt32
    obtain ⟨g3, e3⟩ := t_get hs hz e si ((i + (2 : Int32) * nI v) + (1 : Int32))
    rw [fl_X6_isAsTold_12, if_neg (nI_ge hv (by omega)), e1]
    dsimp only
    rw [e2]
    dsimp only
    rw [e3, nI_1]
    dsimp only
    split
    · exact Or.inr ⟨_, rfl⟩
    · exact Or.inl ⟨_, rfl⟩
theorem t_felt6 {kd hd bd pt pn w : Nat → Int32} {sz ps t wars wet day drawn : Int32} (H : KR kd hd bd pt sz pn ps t wars wet day drawn w) {sl ss : Nat → Int32} {si : Nat → Int64} {ml ms : Nat → Int32} {mi : Nat → Int64} (S : KS sl ss si ml ms mi) (fm : Nat → Int32) (a1 a2 a3 a4 a5 a6 : Int32) : ∃ q, f_X6_felt kd hd bd sz fm t wet day sl ss si a1 a2 a3 a4 a5 a6 = some q := by
  obtain ⟨n, k, rfl, rfl, hC, hW, hG, hH, hP⟩ := H
  have hn := hC.1
  unfold f_X6_felt
  rcases s_isCl hn hW.1 a1 with ⟨y1, y2⟩ | ⟨c, hc, rfl, y1, y2⟩
  · rw [if_pos y1]; exact ⟨_, rfl⟩
  rw [if_neg y1]
  unfold f_X6_isSheet f_X6_isLane
  split
  · exact ⟨_, rfl⟩
  rename_i c2
  split
  · exact ⟨_, rfl⟩
  split
  · exact ⟨_, rfl⟩
  rename_i c5
  split
  · exact ⟨_, rfl⟩
  obtain ⟨s, -, hs, rfl⟩ := kb_win (a := 0) (b := 3) (by omega) (by omega) c2
  obtain ⟨N, -, hN, rfl⟩ := kb_win (a := 1) (b := 6) (by omega) (by omega) c5
  obtain ⟨-, -, z, hz, ez, -, -⟩ := S s (by omega)
  have hs4 : s < 4 := by omega
  obtain ⟨q1, e1⟩ : ∃ r, f_X5_faultOf sl ss (nI s) a3 a4 ((2 : Int32) * nI N) = some r := by
    rcases s_fault S hs4 a3 a4 ((2 : Int32) * nI N) with ⟨r, -, k1, -⟩ | ⟨-, -, -, -, -, -, -, -, -, k1, -⟩
    · exact ⟨r, k1⟩
    · exact ⟨_, k1⟩
  have af : ∃ r, f_X6_areForces ss si (nI s) a4 (nI N) = some r := by
    refine lt (fun m (u : Unit) v => fl_X6_areForces_3 m ss si (nI s) a4 (nI N) (nI v)) N ?_ ?_ 300 () 0 (by omega) (by omega)
    · intro m _
      refine ⟨1, ?_⟩
      show fl_X6_areForces_3 (m + 1) ss si (nI s) a4 (nI N) (nI N) = some 1
      rw [fl_X6_areForces_3, if_pos (Int32.le_refl _)]
    · intro m u v hv
      show (∃ r, fl_X6_areForces_3 (m + 1) ss si (nI s) a4 (nI N) (nI v) = some r) ∨ ∃ s' : Unit, fl_X6_areForces_3 (m + 1) ss si (nI s) a4 (nI N) (nI v) = fl_X6_areForces_3 m ss si (nI s) a4 (nI N) (nI (v + 1))
      obtain ⟨g1, e1⟩ := t_get hs4 hz ez si (a4 + (2 : Int32) * nI v)
      rw [fl_X6_areForces_3, if_neg (nI_ge hv (by omega)), e1, nI_1]
      dsimp only
      repeat' split
      all_goals first | exact Or.inl ⟨_, rfl⟩ | exact Or.inr ⟨(), rfl⟩
  obtain ⟨q2, e2⟩ := af
  obtain ⟨f', ef, -⟩ := s_weigh kd hd fm wet day
  have ix : ¬ (nI c < 0 ∨ 8 ≤ (nI c).toNatClampNeg) := nI_in (by omega) (by decide)
  have kf : ∃ r, f_X6_kindsFelt kd hd bd fm t wet day ss si (nI c) (nI s) a4 (nI N) = some r := by
    unfold f_X6_kindsFelt
    rw [ef]
    dsimp only
    refine lt (fun m (u : (Nat → Int32) × Int32) v => fl_X6_kindsFelt_13 m kd hd bd u.1 t wet day ss si (nI c) (nI s) a4 (nI N) u.2 (nI v)) 5 ?_ ?_ 300 (f', 0) 0 (by omega) (by omega)
    · intro m u
      refine ⟨(u.2, u.1), ?_⟩
      show fl_X6_kindsFelt_13 (m + 1) kd hd bd u.1 t wet day ss si (nI c) (nI s) a4 (nI N) u.2 (nI 5) = some (u.2, u.1)
      rw [fl_X6_kindsFelt_13, if_pos (by decide)]
    · intro m u v hv
      right
      show ∃ s' : (Nat → Int32) × Int32, fl_X6_kindsFelt_13 (m + 1) kd hd bd u.1 t wet day ss si (nI c) (nI s) a4 (nI N) u.2 (nI v) = fl_X6_kindsFelt_13 m kd hd bd s'.1 t wet day ss si (nI c) (nI s) a4 (nI N) s'.2 (nI (v + 1))
      obtain ⟨g, eg⟩ := t_told hs4 hz ez bd (upd u.1 (nI c).toNatClampNeg (f_X4_firmBy wet (nI v) (hd (nI c).toNatClampNeg) day)) t si a4 hN
      have l5 : ¬ (5 : Int32) ≤ nI v := nI_ge (b := 5) hv (by decide)
      rw [fl_X6_kindsFelt_13, if_neg l5, if_neg ix, if_neg ix, eg, nI_1]
      dsimp only
      split
      · exact ⟨(_, _), rfl⟩
      · exact ⟨(_, _), rfl⟩
  have hf : ∃ r, f_X6_holdsFelt kd hd bd fm t wet day ss si (nI c) (nI s) a4 (nI N) = some r := by
    unfold f_X6_holdsFelt
    rw [ef]
    dsimp only
    refine lt (fun m (u : (Nat → Int32) × Int32) v => fl_X6_holdsFelt_13 m kd hd bd u.1 t wet day ss si (nI c) (nI s) a4 (nI N) u.2 (nI v)) 21 ?_ ?_ 300 (f', 0) 1 (by omega) (by omega)
    · intro m u
      refine ⟨(u.2, u.1), ?_⟩
      show fl_X6_holdsFelt_13 (m + 1) kd hd bd u.1 t wet day ss si (nI c) (nI s) a4 (nI N) u.2 (nI 21) = some (u.2, u.1)
      rw [fl_X6_holdsFelt_13, if_pos (by decide)]
    · intro m u v hv
      right
      show ∃ s' : (Nat → Int32) × Int32, fl_X6_holdsFelt_13 (m + 1) kd hd bd u.1 t wet day ss si (nI c) (nI s) a4 (nI N) u.2 (nI v) = fl_X6_holdsFelt_13 m kd hd bd s'.1 t wet day ss si (nI c) (nI s) a4 (nI N) s'.2 (nI (v + 1))
      obtain ⟨g, eg⟩ := t_told hs4 hz ez bd (upd u.1 (nI c).toNatClampNeg (f_X4_firmBy wet (kd (nI c).toNatClampNeg) (nI v) day)) t si a4 hN
      have l20 : ¬ (20 : Int32) < nI v := nI_nlt (a := 20) (by omega) (by omega)
      rw [fl_X6_holdsFelt_13, if_neg l20, if_neg ix, if_neg ix, eg, nI_1]
      dsimp only
      split
      · exact ⟨(_, _), rfl⟩
      · exact ⟨(_, _), rfl⟩
  obtain ⟨q3, e3⟩ := kf
  obtain ⟨q4, e4⟩ := hf
  rw [e1, e2, e3, e4]
  dsimp only
  repeat' split
  all_goals exact ⟨_, rfl⟩
theorem t_felt7 {kd hd bd pt pn w : Nat → Int32} {sz ps t wars wet day drawn : Int32} (H : KR kd hd bd pt sz pn ps t wars wet day drawn w) {sl ss : Nat → Int32} {si : Nat → Int64} {ml ms : Nat → Int32} {mi : Nat → Int64} (S : KS sl ss si ml ms mi) (tr : Nat → Int32) (a1 a2 a3 a4 a5 a6 : Int32) : ∃ q, f_X7_felt ml ms mi w tr a1 a2 a3 a4 a5 a6 = some q := by
  obtain ⟨n, k, rfl, rfl, hC, hW, hG, hH, hP⟩ := H
  have hn := hC.1
  obtain ⟨⟨x, hx, rfl⟩, gw, gd, gr⟩ := hG
  have h2 : w 2 = nI x := hH.2.2.1
  unfold f_X7_felt
  rcases s_isCl hn hW.1 a1 with ⟨y1, y2⟩ | ⟨c, hc, rfl, y1, y2⟩
  · rw [if_pos y2]; exact ⟨_, rfl⟩
  rw [if_neg y2]
  unfold f_X7_isSheet
  simp only [kb_in7]
  split
  · exact ⟨_, rfl⟩
  rename_i c2
  split
  · exact ⟨_, rfl⟩
  split
  · exact ⟨_, rfl⟩
  rename_i c5
  split
  · exact ⟨_, rfl⟩
  rename_i c6'
  obtain ⟨s, -, hs, rfl⟩ := kb_win (a := 0) (b := 3) (by omega) (by omega) c2
  obtain ⟨N, -, hN, rfl⟩ := kb_win (a := 1) (b := 6) (by omega) (by omega) c5
  obtain ⟨wh, -, hwh, rfl⟩ := kb_win (a := 0) (b := 1) (by omega) (by omega) c6'
  have hs4 : s < 4 := by omega
  rcases s_fault S hs4 a3 a4 ((2 : Int32) * nI N) with ⟨r, h0, k1, k2⟩ | ⟨z, i, N2, hz, ez, rfl, e3, hin, e4, k1, k2⟩
  · rw [k2]
    dsimp only
    rw [if_neg h0]
    exact ⟨_, rfl⟩
  have hN2 : N2 = 2 * N := by
    have e5 : (2 : Int32) * nI N = nI (2 * N) := pk_mul 2 N
    rw [e5] at e3
    by_cases h : N2 < 2 ^ 31
    · exact ((nI_eq (by omega) h).mp e3).symm
    · omega
  subst hN2
  rw [k2]
  dsimp only
  rw [if_pos rfl]
  have ixv : ∀ v, v < N → (((24 : Int32) * nI s + nI i) + (2 : Int32) * nI v) = nI (24 * s + i + 2 * v) := by
    intro v _
    have e5 : (2 : Int32) * nI v = nI (2 * v) := pk_mul 2 v
    rw [m24', e5, nI_add]
  -- one value tried
  have inner : ∀ (ko : (Nat → Int32) → (Nat → Int32) → (Nat → Int64) → (Nat → Int32) → (Nat → Int32) → Int32 → Int32 → Int32 → Int32 → Int32 → Int32 → Int32 → Option (Int32 × (Nat → Int32))) (kd' hd' : Nat → Int32) (hC' : KC n kd' hd' bd pt) (v8 v9 : Int32), (∀ tr v8, ∃ q, ko ml ms mi w tr (nI c) (nI s) (nI i) (nI N) (nI wh) v8 (v9 + 1) = some q) → ∀ u, TT n kd' hd' bd pt u → ∃ q, fl_X7_felt_177 ko 300 ml ms mi w u (nI c) (nI s) (nI i) (nI N) (nI wh) v8 v9 (1 : Int32) (0 : Int32) = some q := by
    intro ko kd' hd' hC' v8 v9 hko u T
    obtain ⟨q, eq, -⟩ := lp (fun m (u : (Nat → Int32) × Int32) v => fl_X7_felt_177 ko m ml ms mi w u.1 (nI c) (nI s) (nI i) (nI N) (nI wh) v8 v9 u.2 (nI v)) N (fun _ u => TT n kd' hd' bd pt u.1) (fun _ => True)
      (fun m u _ => by
        show ∃ r, fl_X7_felt_177 ko (m + 1) ml ms mi w u.1 (nI c) (nI s) (nI i) (nI N) (nI wh) v8 v9 u.2 (nI N) = some r ∧ True
        rw [fl_X7_felt_177, if_pos (Int32.le_refl _)]
        split
        · obtain ⟨q, eq⟩ := hko u.1 (v8 ||| (0 : Int32))
          exact ⟨q, eq, True.intro⟩
        · obtain ⟨q, eq⟩ := hko u.1 (v8 ||| ((1 : Int32) <<< (v9 &&& (31 : Int32))))
          exact ⟨q, eq, True.intro⟩)
      (fun m u v hv T => by
        right
        show ∃ s' : (Nat → Int32) × Int32, TT n kd' hd' bd pt s'.1 ∧ fl_X7_felt_177 ko (m + 1) ml ms mi w u.1 (nI c) (nI s) (nI i) (nI N) (nI wh) v8 v9 u.2 (nI v) = fl_X7_felt_177 ko m ml ms mi w s'.1 (nI c) (nI s) (nI i) (nI N) (nI wh) v8 v9 s'.2 (nI (v + 1))
        obtain ⟨b, u', e, hb, T'⟩ := t_pull1 hC' T (mi (nI (24 * s + i + 2 * v)).toNatClampNeg).toInt32
        obtain ⟨r, er⟩ := t_bits (nI b)
        have e1 : nI (24 * s + i + 2 * v) + (1 : Int32) = nI (24 * s + i + 2 * v + 1) := nI_1 _
        rw [fl_X7_felt_177, if_neg (nI_ge hv (by omega)), ixv v hv, if_neg (nI_in (by omega) (by decide)), e, e1]
        dsimp only
        rw [er]
        dsimp only
        rw [if_neg (nI_in (by omega) (by decide)), nI_1]
        split
        · exact ⟨(u.1, 0), T, rfl⟩
        · split
          · exact ⟨(_, _), T', rfl⟩
          · exact ⟨(_, _), T', rfl⟩)
      N 300 (u, 1) 0 (by omega) (by omega) T
    exact ⟨q, eq⟩
  have kx : ¬ (nI (6 + c) < 0 ∨ 79 ≤ (nI (6 + c)).toNatClampNeg) := nI_in (by omega) (by decide)
  have hx' : ¬ (nI (14 + c) < 0 ∨ 79 ≤ (nI (14 + c)).toNatClampNeg) := nI_in (by omega) (by decide)
  have outer : ∀ m fuel v (tr : Nat → Int32) (v8 : Int32), v + m = (if wh = 0 then 5 else 21) → wh ≤ v → m < fuel → ∃ q, fl_X7_felt_130 fuel ml ms mi w tr (nI c) (nI s) (nI i) (nI N) (nI wh) v8 (nI v) = some q := by
    intro m
    induction m with
    | zero =>
      intro fuel v tr v8 hv _ hfu
      obtain ⟨g, rfl⟩ : ∃ g, fuel = g + 1 := ⟨fuel - 1, by omega⟩
      rw [fl_X7_felt_130]
      by_cases hw0 : wh = 0
      · subst hw0
        rw [if_pos rfl] at hv
        have e : v = 5 := by omega
        subst e
        rw [if_pos (show nI 0 = (0 : Int32) from rfl), if_pos (by decide)]
        exact ⟨_, rfl⟩
      · have e1 : wh = 1 := by omega
        subst e1
        rw [if_neg (by decide)] at hv
        have e : v = 21 := by omega
        subst e
        rw [if_neg (show ¬ nI 1 = (0 : Int32) by decide), if_pos (by decide)]
        exact ⟨_, rfl⟩
    | succ m ih =>
      intro fuel v tr v8 hv hwv hfu
      obtain ⟨g, rfl⟩ : ∃ g, fuel = g + 1 := ⟨fuel - 1, by omega⟩
      have hko : ∀ tr v8, ∃ q, fl_X7_felt_130 g ml ms mi w tr (nI c) (nI s) (nI i) (nI N) (nI wh) v8 (nI v + 1) = some q := by
        intro tr v8
        rw [nI_1]
        exact ih g (v + 1) tr v8 (by omega) (by omega) (by omega)
      obtain ⟨u, eu, T, hu⟩ := t_begin hn hW hx h2 tr
      rw [fl_X7_felt_130, eu, c6, c14]
      dsimp only
      rw [nI_clamp (n := 6 + c) (by omega), nI_clamp (n := 14 + c) (by omega)]
      by_cases hw0 : wh = 0
      · have z0 : nI wh = (0 : Int32) := by rw [hw0]; rfl
        rw [if_pos hw0] at hv
        have l5 : ¬ (5 : Int32) ≤ nI v := nI_ge (b := 5) (by omega) (by omega)
        have k6 : ¬ (nI (6 + c) < 0 ∨ 79 ≤ 6 + c) := by
          rintro (h | h)
          · exact nI_pos (by omega) h
          · omega
        simp only [if_pos z0, if_neg l5, if_neg k6]
        have hC' : KC n (upd kd c (nI v)) hd bd pt := ⟨hn, fun e he => by
          obtain ⟨x1, x2, x3, x4⟩ := hC.2 e he
          refine ⟨?_, x2, x3, x4⟩
          by_cases ee : e = c
          · subst ee; exact ⟨v, by omega, upd_eq⟩
          · rw [upd_ne ee]; exact x1⟩
        refine inner _ (upd kd c (nI v)) hd hC' v8 (nI v) hko _ ⟨⟨(upd_ne (by omega)).trans T.1.1, fun e he => ?_⟩, ?_⟩
        · obtain ⟨x1, x2, x3, x4⟩ := T.1.2 e he
          refine ⟨?_, (upd_ne (by omega)).trans x2, (upd_ne (by omega)).trans x3, (upd_ne (by omega)).trans x4⟩
          by_cases ee : e = c
          · subst ee; exact upd_eq.trans upd_eq.symm
          · exact (upd_ne (by omega)).trans (x1.trans (upd_ne ee).symm)
        · obtain ⟨a, ha, h⟩ := T.2
          exact ⟨a, ha, (upd_ne (by omega)).trans h⟩
      · have e1 : wh = 1 := by omega
        have z0 : ¬ nI wh = (0 : Int32) := by rw [e1]; decide
        rw [if_neg hw0] at hv
        have l21 : ¬ (21 : Int32) ≤ nI v := nI_ge (b := 21) (by omega) (by omega)
        have k14 : ¬ (nI (14 + c) < 0 ∨ 79 ≤ 14 + c) := by
          rintro (h | h)
          · exact nI_pos (by omega) h
          · omega
        simp only [if_neg z0, if_neg l21, if_neg k14]
        have hC' : KC n kd (upd hd c (nI v)) bd pt := ⟨hn, fun e he => by
          obtain ⟨x1, x2, x3, x4⟩ := hC.2 e he
          refine ⟨x1, ?_, x3, x4⟩
          by_cases ee : e = c
          · subst ee; exact ⟨v, by omega, by omega, upd_eq⟩
          · rw [upd_ne ee]; exact x2⟩
        refine inner _ kd (upd hd c (nI v)) hC' v8 (nI v) hko _ ⟨⟨(upd_ne (by omega)).trans T.1.1, fun e he => ?_⟩, ?_⟩
        · obtain ⟨x1, x2, x3, x4⟩ := T.1.2 e he
          refine ⟨(upd_ne (by omega)).trans x1, ?_, (upd_ne (by omega)).trans x3, (upd_ne (by omega)).trans x4⟩
          by_cases ee : e = c
          · subst ee; exact upd_eq.trans upd_eq.symm
          · exact (upd_ne (by omega)).trans (x2.trans (upd_ne ee).symm)
        · obtain ⟨a, ha, h⟩ := T.2
          exact ⟨a, ha, (upd_ne (by omega)).trans h⟩
  have hfin : ∀ tr, ∃ q, fl_X7_felt_130 300 ml ms mi w tr (nI c) (nI s) (nI i) (nI N) (nI wh) (0 : Int32) (nI wh) = some q := by
    intro tr
    by_cases hw0 : wh = 0
    · exact outer 5 300 wh tr 0 (by rw [if_pos hw0]; omega) (by omega) (by omega)
    · exact outer 20 300 wh tr 0 (by rw [if_neg hw0]; omega) (by omega) (by omega)
  refine lt (fun m (u : Unit) v => fl_X7_felt_72 m ml ms mi w tr (nI c) (nI s) (nI i) (nI N) (nI wh) (nI v)) N ?_ ?_ 300 () 0 (by omega) (by omega)
  · intro m _
    show ∃ r, fl_X7_felt_72 (m + 1) ml ms mi w tr (nI c) (nI s) (nI i) (nI N) (nI wh) (nI N) = some r
    rw [fl_X7_felt_72, if_pos (Int32.le_refl _)]
    exact hfin tr
  · intro m u v hv
    show (∃ r, fl_X7_felt_72 (m + 1) ml ms mi w tr (nI c) (nI s) (nI i) (nI N) (nI wh) (nI v) = some r) ∨ ∃ s' : Unit, fl_X7_felt_72 (m + 1) ml ms mi w tr (nI c) (nI s) (nI i) (nI N) (nI wh) (nI v) = fl_X7_felt_72 m ml ms mi w tr (nI c) (nI s) (nI i) (nI N) (nI wh) (nI (v + 1))
    rw [fl_X7_felt_72, if_neg (nI_ge hv (by omega)), ixv v hv, if_neg (nI_in (by omega) (by decide)), nI_1]
    repeat' split
    all_goals first | exact Or.inl ⟨_, rfl⟩ | exact Or.inr ⟨(), rfl⟩
