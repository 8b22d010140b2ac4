/-! 58: a clause, an agreement -/
theorem g_kin0 : f_X7_kindBy (nI 0) = -1 := by decide
theorem s_clI {dl mt : Nat → Int32} {z : Nat} (hz : z ≤ 100) (hv : ∀ i, i < z → ∃ v, 32 ≤ v ∧ v ≤ 126 ∧ dl i = nI v) (ht : ∀ i, i < z → mt i = dl i) {n : Nat} (hn : n < 8) {dk dh db dp rd : Nat → Int32} {dr : Int32} (H : KT n dk dh db dp rd dr) {p : Nat} (hp : p ≤ z) (num : Int32) :
    (∃ e x r, e ≤ z ∧ f_X3_readClause dl dk dh db dp (nI n) (nI z) (nI p) = some r ∧ (r.1 = 0 ∨ r.1 = 1 ∧ 48 ≤ sy dl z e ∧ sy dl z e ≤ 57) ∧ r.2.2.2.2.2.2 = nI e ∧ f_X7_isClauseItem (nI z) mt (nI p) num rd = some (0, nI e, x, rd)) ∨
    (∃ e x dk' dh' db' dp' rd', e ≤ z ∧ f_X3_readClause dl dk dh db dp (nI n) (nI z) (nI p) = some (1, dk', dh', db', dp', nI (n + 1), nI e) ∧ f_X7_isClauseItem (nI z) mt (nI p) num rd = some (1, nI e, x, rd') ∧ KT (n + 1) dk' dh' db' dp' rd' dr) := by
  have hq := nx_le (dl := dl) hp
  have hs := (sy_lt hv (nx dl z p)).1
  unfold f_X3_readClause f_X7_isClauseItem
  rw [nl6 hz hv hp, nl7 hz hv ht hp]
  dsimp only
  rw [g_kind _ hs]
  rcases g_kin _ hs with hk | ⟨K, hK, hk⟩
  · left
    rw [hk, if_neg (by decide), if_neg (by decide)]
    exact ⟨_, _, _, hq, rfl, Or.inl rfl, rfl, rfl⟩
  have hqz : nx dl z p < z := sy_in hv (fun e => by
    rw [e, g_kin0] at hk
    have hh : ∀ k, k < 5 → ¬ (-1 : Int32) = nI k := by decide
    exact hh K hK hk)
  rw [hk, if_pos (nI_pos' (by omega)), if_pos (nI_pos' (by omega)), nI_1]
  have tail : ∀ (e b : Nat) (nm : Int32), e ≤ z → ∀ h, 1 ≤ h → h ≤ 20 → b < 2 ^ n →
      (∃ e' x r, e' ≤ z ∧ tl6 dl dk dh db dp (nI n) (nI z) (nI e) (nI K) (nI h) (nI b) = some r ∧ (r.1 = 0 ∨ r.1 = 1 ∧ 48 ≤ sy dl z e' ∧ sy dl z e' ≤ 57) ∧ r.2.2.2.2.2.2 = nI e' ∧ tl7 (nI z) mt (nI e) nm rd (nI K) (nI h) (nI b) = some (0, nI e', x, rd)) ∨
      (∃ e' x dk' dh' db' dp' rd', e' ≤ z ∧ tl6 dl dk dh db dp (nI n) (nI z) (nI e) (nI K) (nI h) (nI b) = some (1, dk', dh', db', dp', nI (n + 1), nI e') ∧ tl7 (nI z) mt (nI e) nm rd (nI K) (nI h) (nI b) = some (1, nI e', x, rd') ∧ KT (n + 1) dk' dh' db' dp' rd' dr) := by
    intro e b nm he h h1 h2 hb
    rcases s_tail hz hv ht hn H hK h1 h2 hb he nm with ⟨e', x, he', k6, k7⟩ | hG
    · exact Or.inl ⟨e', x, _, he', k6, Or.inl rfl, rfl, k7⟩
    · exact Or.inr hG
  rcases s_num hz hv ht (show nx dl z p + 1 ≤ z by omega) num with ⟨e, x, he, k6, k7⟩ | ⟨e, h, he, h1, h2, k6, k7⟩
  · left
    rw [k6, k7]
    dsimp only
    rw [if_neg (by decide), if_pos rfl]
    exact ⟨_, _, _, he, rfl, Or.inl rfl, rfl, rfl⟩
  rw [k6]
  dsimp only
  rw [if_pos (nI_pos' (by omega)), nl6 hz hv he]
  dsimp only
  have hr := nx_le (dl := dl) he
  have hsr := (sy_lt hv (nx dl z e)).1
  rcases k7 with k7 | ⟨hdig, x, k7⟩
  · rw [k7]
    dsimp only
    have sg := sg7 hz hv ht he 47 (by omega)
    have sg' : f_X7_isSign (nI z) mt (nI e) (47 : Int32) = _ := sg
    rw [if_neg n10, sg']
    dsimp only
    by_cases h47 : sy dl z (nx dl z e) = 47
    · have g47 : g6 (sy dl z (nx dl z e)) = (47 : Int32) := (g_eq _ hsr 47 (by omega) (by omega)).mpr h47
      have hrz : nx dl z e < z := sy_in hv (by omega)
      rw [if_pos g47, if_pos h47]
      dsimp only
      rw [if_neg (by decide), nI_1, dg7 hz hv ht (show nx dl z e + 1 ≤ z by omega)]
      have hu := nx_le (dl := dl) (z := z) (p := nx dl z e + 1) (by omega)
      have hsu := (sy_lt hv (nx dl z (nx dl z e + 1))).1
      have gb := g_bar7 _ hsu 0 (by omega) n (by omega)
      have gb' : f_X6_isWithin (nI (sy dl z (nx dl z (nx dl z e + 1))) - 48) (0 : Int32) (nI n - 1) = _ := gb
      rw [H.2.1.1, gb']
      unfold f_X3_readBarred
      rw [fl_X3_readBarred_6, if_neg (by decide), nl6 hz hv (show nx dl z e + 1 ≤ z by omega)]
      dsimp only
      have lb := g_bar6 _ hsu 0 (by omega)
      have ln := g_bar6 _ hsu n (by omega)
      by_cases hb1 : 48 + 0 ≤ sy dl z (nx dl z (nx dl z e + 1)) ∧ sy dl z (nx dl z (nx dl z e + 1)) < 48 + n
      · have huz : nx dl z (nx dl z e + 1) < z := sy_in hv (by omega)
        have hn0 : ¬ g6 (sy dl z (nx dl z (nx dl z e + 1))) - 48 < (0 : Int32) := fun q => by
          have := lb.mp q
          omega
        obtain ⟨d, ed⟩ : ∃ d, sy dl z (nx dl z (nx dl z e + 1)) = 48 + d := ⟨sy dl z (nx dl z (nx dl z e + 1)) - 48, by omega⟩
        have g6d : g6 (sy dl z (nx dl z (nx dl z e + 1))) - 48 = nI d := by
          rw [g_sub6 (by omega)]
          exact congrArg nI (by omega)
        have g7d : nI (sy dl z (nx dl z (nx dl z e + 1))) - 48 = nI d := by
          rw [g_sub7 (by omega)]
          exact congrArg nI (by omega)
        have z0r : (0 : Int32) ||| nI (2 ^ d) = nI (2 ^ d) := by
          have := kb_or 0 (2 ^ d)
          rw [Nat.zero_or] at this
          exact this
        rw [if_neg hn0, if_pos (ln.mpr hb1.2), if_pos hb1, if_neg (by decide), g6d, g7d, kb_bt d (by omega), z0r, nI_1, nI_1]
        dsimp only
        rw [if_neg (by decide), kb_bt d (by omega)]
        have p4 : 2 ^ (d + 1) = 2 ^ d * 2 := Nat.pow_succ ..
        have p5 : 0 < 2 ^ d := Nat.two_pow_pos d
        obtain ⟨b', u, huz', hb0, hbn, e6, e7⟩ := s_bars hz hv ht hn H.2.1.1 (nI K) (nI h) (n - (d + 1)) 299 300 (nx dl z (nx dl z e + 1) + 1) (2 ^ d) (d + 1) 1 (nI d) (by omega) (by omega) (by omega) (by omega) (by omega) (by omega) p5 (by omega)
        have e6' : fl_X3_readBarred_6 299 dl (nI n) (nI z) (nI (nx dl z (nx dl z e + 1) + 1)) (nI (2 ^ d)) (nI (d + 1)) ((0 : Int32) + (1 : Int32)) = _ := e6
        have p8' : 2 ^ n ≤ 256 := p8 (by omega)
        rw [e6']
        dsimp only
        rw [if_neg (nI_ne0 hb0 (by omega))]
        rcases e7 with ⟨nm, e7⟩ | ⟨hdig, x, e7⟩
        · have e7' : fl_X7_isClauseItem_78 300 (nI z) mt (nI (nx dl z (nx dl z e + 1) + 1)) (nI d) rd (nI K) (nI h) (nI (2 ^ d)) (nI d) = _ := e7
          rw [e7']
          exact tail u b' nm huz' h h1 h2 hbn
        · have e7' : fl_X7_isClauseItem_78 300 (nI z) mt (nI (nx dl z (nx dl z e + 1) + 1)) (nI d) rd (nI K) (nI h) (nI (2 ^ d)) (nI d) = _ := e7
          rw [e7']
          left
          obtain ⟨r, er, r1, r2⟩ := tl6_dig hz hv hn dk dh db dp (nI K) (nI h) (nI b') huz' hdig
          exact ⟨u, _, r, huz', er, Or.inr ⟨r1, hdig⟩, r2, rfl⟩
      · left
        rw [if_neg hb1, if_pos rfl]
        dsimp only
        rw [if_pos rfl]
        by_cases hb2 : sy dl z (nx dl z (nx dl z e + 1)) < 48 + 0
        · have hlt : g6 (sy dl z (nx dl z (nx dl z e + 1))) - 48 < (0 : Int32) := lb.mpr hb2
          rw [if_pos hlt]
          dsimp only
          rw [if_pos rfl]
          exact ⟨_, _, _, hu, rfl, Or.inl rfl, rfl, rfl⟩
        · have hlt : ¬ g6 (sy dl z (nx dl z (nx dl z e + 1))) - 48 < (0 : Int32) := fun q => hb2 (lb.mp q)
          rw [if_neg hlt, if_neg (fun q => by
            have := ln.mp q
            omega)]
          dsimp only
          rw [if_pos rfl]
          exact ⟨_, _, _, hu, rfl, Or.inl rfl, rfl, rfl⟩
    · have g47 : ¬ g6 (sy dl z (nx dl z e)) = (47 : Int32) := fun q => h47 ((g_eq _ hsr 47 (by omega) (by omega)).mp q)
      rw [if_neg g47, if_neg h47]
      dsimp only
      rw [if_pos rfl]
      exact tail (nx dl z e) 0 (nI h) hr h h1 h2 (Nat.two_pow_pos n)
  · left
    rw [k7]
    dsimp only
    rw [if_pos rfl]
    have hx : nx dl z e = e := nx_fix (sy_nb hv (by omega))
    have g47 : ¬ g6 (sy dl z (nx dl z e)) = (47 : Int32) := fun q => by
      have := (g_eq _ hsr 47 (by omega) (by omega)).mp q
      rw [hx] at this
      omega
    rw [if_neg g47, hx]
    obtain ⟨r, er, r1, r2⟩ := tl6_dig hz hv hn dk dh db dp (nI K) (nI h) (0 : Int32) he hdig
    exact ⟨e, _, r, he, er, Or.inr ⟨r1, hdig⟩, r2, rfl⟩
theorem s_agr {dl mt : Nat → Int32} {z : Nat} (hz : z ≤ 100) (hv : ∀ i, i < z → ∃ v, 32 ≤ v ∧ v ≤ 126 ∧ dl i = nI v) (ht : ∀ i, i < z → mt i = dl i) (dr : Int32) : ∀ (m f6 f7 n p : Nat) (num : Int32) (dk dh db dp rd : Nat → Int32), n + m = 8 → 1 ≤ m → m < f6 → m + 1 < f7 → p ≤ z → KT n dk dh db dp rd dr →
    ∃ r6 r7, fl_X3_readClauses_2 f6 dl dk dh db dp (nI n) (nI z) (nI p) (nI (n + 1)) = some r6 ∧ fl_X7_isAgreement_2 f7 (nI z) mt (nI p) num rd (1 : Int32) = some r7 ∧
      ((∃ e, e ≤ z ∧ r6.1 = 0 ∧ r7.1 = 0 ∧ r6.2.2.2.2.2.2 = nI e ∧ r7.2.1 = nI e) ∨ (∃ n', 1 ≤ n' ∧ n' ≤ 8 ∧ r6.1 = 1 ∧ r7.1 = 1 ∧ r6.2.2.2.2.2.1 = nI n' ∧ KT n' r6.2.1 r6.2.2.1 r6.2.2.2.1 r6.2.2.2.2.1 r7.2.2.2 dr)) := by
  intro m
  induction m with
  | zero => intro f6 f7 n p num dk dh db dp rd h1 h2; exact absurd h2 (by omega)
  | succ m ih =>
    intro f6 f7 n p num dk dh db dp rd hnm hm hf6 hf7 hp H
    obtain ⟨f6, rfl⟩ : ∃ a, f6 = a + 1 := ⟨f6 - 1, by omega⟩
    obtain ⟨f7, rfl⟩ : ∃ a, f7 = a + 1 + 1 := ⟨f7 - 2, by omega⟩
    have l8 : ¬ (8 : Int32) < nI (n + 1) := nI_nlt (b := n + 1) (a := 8) (by omega) (by omega)
    rw [fl_X3_readClauses_2, if_neg l8, fl_X7_isAgreement_2, if_neg (by decide)]
    rcases s_clI hz hv ht (show n < 8 by omega) H hp num with ⟨e, x, r, he, e6, hr1, hr2, e7⟩ | ⟨e, x, dk', dh', db', dp', rd', he, e6, e7, H'⟩
    · rw [e6, e7]
      dsimp only
      rw [if_pos rfl]
      rcases hr1 with hr1 | ⟨hr1, hdig⟩
      · rw [if_pos hr1]
        exact ⟨_, _, rfl, rfl, Or.inl ⟨e, he, rfl, rfl, hr2, rfl⟩⟩
      · have hx : nx dl z e = e := nx_fix (sy_nb hv (by omega))
        have hs := (sy_lt hv e).1
        rw [if_neg (by rw [hr1]; decide), hr2, nl6 hz hv he, hx]
        dsimp only
        have n1 : ¬ g6 (sy dl z e) = -1 := fun q => by
          have := (g_end _ hs).mp q
          omega
        have n2 : ¬ g6 (sy dl z e) = (44 : Int32) := fun q => by
          have := (g_eq _ hs 44 (by omega) (by omega)).mp q
          omega
        rw [if_neg n1, if_neg n2]
        exact ⟨_, _, rfl, rfl, Or.inl ⟨e, he, rfl, rfl, rfl, rfl⟩⟩
    · rw [e6, e7]
      dsimp only
      rw [if_neg (by decide), if_neg (by decide), nl6 hz hv he]
      dsimp only
      have hq := nx_le (dl := dl) he
      have hs := (sy_lt hv (nx dl z e)).1
      have h5 : rd' 5 = nI (n + 1) := H'.2.1.1
      have fin : ∀ (u : Nat), u ≤ z → nx dl z u = nx dl z e → ∀ x0 : Int32, ∃ r7, fl_X7_isAgreement_2 (f7 + 1) (nI z) mt (nI u) x0 rd' (0 : Int32) = some r7 ∧ r7.2.1 = nI (nx dl z e) ∧ r7.2.2.2 = rd' ∧ (sy dl z (nx dl z e) = 0 → r7.1 = 1) ∧ (sy dl z (nx dl z e) ≠ 0 → r7.1 = 0) := by
        intro u hu eu x0
        rw [fl_X7_isAgreement_2, if_pos rfl, nl7 hz hv ht hu, eu]
        dsimp only
        by_cases hz0 : sy dl z (nx dl z e) = 0
        · rw [if_pos (show nI (sy dl z (nx dl z e)) = 0 by rw [hz0]; rfl)]
          exact ⟨_, rfl, rfl, rfl, fun _ => rfl, fun h => absurd hz0 h⟩
        · rw [if_neg (nI_ne0 (by omega) (by omega))]
          exact ⟨_, rfl, rfl, rfl, fun h => absurd h hz0, fun _ => rfl⟩
      have sg := sg7 hz hv ht he 44 (by omega)
      have sg' : f_X7_isSign (nI z) mt (nI e) (44 : Int32) = _ := sg
      by_cases h44 : sy dl z (nx dl z e) = 44
      · have n1 : ¬ g6 (sy dl z (nx dl z e)) = -1 := fun q => by
          have := (g_end _ hs).mp q
          omega
        have n2 : g6 (sy dl z (nx dl z e)) = (44 : Int32) := (g_eq _ hs 44 (by omega) (by omega)).mpr h44
        have hqz : nx dl z e < z := sy_in hv (by omega)
        rw [if_neg n1, if_pos n2]
        by_cases h8 : n + 1 = 8
        · have a1 : nI (n + 1) = (8 : Int32) := by rw [h8]; rfl
          rw [if_pos a1, if_pos (show (8 : Int32) ≤ rd' 5 by rw [h5, a1]; decide)]
          obtain ⟨r7, e7', k1, k2, k3, k4⟩ := fin e he rfl x
          rw [e7']
          exact ⟨_, _, rfl, rfl, Or.inl ⟨nx dl z e, hq, rfl, k4 (by omega), rfl, k1⟩⟩
        · have a1 : ¬ nI (n + 1) = (8 : Int32) := fun q => h8 ((nI_eq (b := 8) (by omega) (by omega)).mp q)
          have a2 : ¬ (8 : Int32) ≤ nI (n + 1) := nI_ge (b := 8) (by omega) (by omega)
          rw [if_neg a1, if_neg (show ¬ (8 : Int32) ≤ rd' 5 by rw [h5]; exact a2), sg', if_pos h44, nI_1, nI_1]
          dsimp only
          rw [if_neg (by decide)]
          exact ih f6 (f7 + 1) (n + 1) (nx dl z e + 1) x dk' dh' db' dp' rd' (by omega) (by omega) (by omega) (by omega) (by omega) H'
      · have n2 : ¬ g6 (sy dl z (nx dl z e)) = (44 : Int32) := fun q => h44 ((g_eq _ hs 44 (by omega) (by omega)).mp q)
        have ref : ∃ r7, (if (8 : Int32) ≤ rd' 5 then fl_X7_isAgreement_2 (f7 + 1) (nI z) mt (nI e) x rd' (0 : Int32) else
            match f_X7_isSign (nI z) mt (nI e) (44 : Int32) with
            | none => none
            | some q3 => if q3.1 = (0 : Int32) then fl_X7_isAgreement_2 (f7 + 1) (nI z) mt q3.2 x rd' (0 : Int32) else fl_X7_isAgreement_2 (f7 + 1) (nI z) mt q3.2 x rd' (1 : Int32)) = some r7 ∧ r7.2.1 = nI (nx dl z e) ∧ r7.2.2.2 = rd' ∧ (sy dl z (nx dl z e) = 0 → r7.1 = 1) ∧ (sy dl z (nx dl z e) ≠ 0 → r7.1 = 0) := by
          by_cases h8 : (8 : Int32) ≤ rd' 5
          · rw [if_pos h8]
            exact fin e he rfl x
          · rw [if_neg h8, sg', if_neg h44]
            dsimp only
            rw [if_pos rfl]
            exact fin (nx dl z e) hq (nx_nx he) x
        obtain ⟨r7, e7', k1, k2, k3, k4⟩ := ref
        by_cases h0 : sy dl z (nx dl z e) = 0
        · rw [if_pos ((g_end _ hs).mpr h0)]
          refine ⟨_, r7, rfl, e7', Or.inr ⟨n + 1, by omega, by omega, rfl, k3 h0, rfl, ?_⟩⟩
          rw [k2]
          exact H'
        · rw [if_neg (fun q => h0 ((g_end _ hs).mp q)), if_neg n2]
          exact ⟨_, r7, rfl, e7', Or.inl ⟨nx dl z e, hq, rfl, k4 h0, rfl, k1⟩⟩
theorem s_bring0 (a s : Nat → Int32) : ∃ s', f_X7_bring s a (0 : Int32) (0 : Int32) (79 : Int32) = some s' ∧ ∀ j, j < 79 → s' j = a j :=
  lp (fun n cur v => fl_X7_bring_3 n cur a (nI 0) (nI 0) (nI 79) (nI v)) 79 (fun v cur => ∀ j, j < v → cur j = a j) _
    (fun n cur h => ⟨cur, by
      show fl_X7_bring_3 (n + 1) cur a (nI 0) (nI 0) (nI 79) (nI 79) = some cur
      rw [fl_X7_bring_3, if_pos (Int32.le_refl _)], h⟩)
    (fun n cur v hv h => Or.inr ⟨upd cur v (a v), by
      intro j hj
      by_cases e : j = v
      · subst e; exact upd_eq
      · rw [upd_ne e]; exact h j (by omega), by
      show fl_X7_bring_3 (n + 1) cur a (nI 0) (nI 0) (nI 79) (nI v) = fl_X7_bring_3 n _ a (nI 0) (nI 0) (nI 79) (nI (v + 1))
      rw [fl_X7_bring_3, if_neg (nI_ge hv (by omega)), nI_add, Nat.zero_add, if_neg (nI_in (by omega) (by decide)), if_neg (nI_in (by omega) (by decide)), nI_clamp (by omega), nI_1]⟩)
    79 300 s 0 (by omega) (by omega) (fun j h => absurd h (by omega))
theorem neg20 : ∀ e, e ≤ 100 → (-20 : Int32) - nI e ≤ 0 := by
  have hh : ∀ e, e < 101 → (-20 : Int32) - nI e ≤ 0 := by decide +kernel
  exact fun e he => hh e (by omega)
theorem ko_agreement {kd hd bd pt pn w : Nat → Int32} {sz ps t wars wet day drawn : Int32} (H : KR kd hd bd pt sz pn ps t wars wet day drawn w) {dl mt : Nat → Int32} {dz mz : Int32} (D : KD dl dz mz mt) (dk dh db dp : Nat → Int32) (dsz da mp mn : Int32) (mr : Nat → Int32) :
    ∃ q1 q2, f_X6_agreement kd hd bd pt sz ps t wars wet day dl dk dh db dp dsz dz da = some q1 ∧ f_X7_agreement mz mt mp mn w mr = some q2 ∧ q1.1 = q2.1 ∧ KR q1.2.1 q1.2.2.1 q1.2.2.2.1 q1.2.2.2.2.1 q1.2.2.2.2.2.1 pn q1.2.2.2.2.2.2.1 q1.2.2.2.2.2.2.2.1 q1.2.2.2.2.2.2.2.2.1 q1.2.2.2.2.2.2.2.2.2.1 q1.2.2.2.2.2.2.2.2.2.2.1 drawn q2.2.2.2.2.1 ∧ KD dl q1.2.2.2.2.2.2.2.2.2.2.2.2.2.2.2.2.1 q2.2.1 mt := by
  obtain ⟨z, hz, rfl, rfl, hl⟩ := D
  have hv : ∀ i, i < z → ∃ v, 32 ≤ v ∧ v ≤ 126 ∧ dl i = nI v := fun i hi => (hl i hi).2
  have ht : ∀ i, i < z → mt i = dl i := fun i hi => (hl i hi).1
  have hdr : w 1 = drawn := by
    obtain ⟨n, k, -, -, -, -, -, hH, -⟩ := H
    exact hH.2.1
  have hgr : ¬ drawn < 0 := by
    obtain ⟨n, k, -, -, -, -, hG, -, -⟩ := H
    exact hG.2.2.2
  have KD0 : KD dl (0 : Int32) (0 : Int32) mt := ⟨0, by omega, rfl, rfl, fun i hi => absurd hi (by omega)⟩
  -- the reference's rows made empty
  obtain ⟨r, er, hr⟩ := lp (fun n cur v => fl_X7_agreement_2 n (nI z) mt mp mn w cur (nI v)) 79 (fun v cur => ∀ j, j < v → cur j = 0) (fun r => ∃ cur, (∀ j, j < 79 → cur j = 0) ∧ (match f_X7_isAgreement (nI z) mt (0 : Int32) mn (upd cur 1 (w 1)) with
      | none => none
      | some q1 =>
        (if q1.1 = (0 : Int32) then
          some (((-20 : Int32) - q1.2.1), (0 : Int32), q1.2.1, q1.2.2.1, w, q1.2.2.2)
        else
          (match f_X7_bring w q1.2.2.2 (0 : Int32) (0 : Int32) (79 : Int32) with
          | none => none
          | some q2 =>
            some ((q2 5), (0 : Int32), q1.2.1, q1.2.2.1, q2, q1.2.2.2)))) = some r)
    (fun n cur h => by
      have hT : KT 0 dk dh db dp (upd cur 1 (w 1)) (w 1) := by
        refine ⟨⟨by omega, fun c hc => absurd hc (by omega)⟩, ⟨?_, fun c hc => absurd hc (by omega)⟩, ⟨?_, upd_eq, ?_, ?_, ?_⟩, ?_⟩
        · rw [upd_ne (by omega)]; exact h 5 (by omega)
        · rw [upd_ne (by omega)]; exact h 0 (by omega)
        · rw [upd_ne (by omega)]; exact h 2 (by omega)
        · rw [upd_ne (by omega)]; exact h 3 (by omega)
        · rw [upd_ne (by omega)]; exact h 4 (by omega)
        · rw [upd_ne (by omega)]; exact h 38 (by omega)
      obtain ⟨r6, r7, -, e7, -⟩ := s_agr hz hv ht (w 1) 8 300 300 0 0 mn dk dh db dp (upd cur 1 (w 1)) (by omega) (by omega) (by omega) (by omega) (by omega) hT
      have e7' : f_X7_isAgreement (nI z) mt (0 : Int32) mn (upd cur 1 (w 1)) = some r7 := e7
      show ∃ r, fl_X7_agreement_2 (n + 1) (nI z) mt mp mn w cur (nI 79) = some r ∧ _
      rw [fl_X7_agreement_2, if_pos (by decide), e7']
      dsimp only
      by_cases h0 : r7.1 = 0
      · rw [if_pos h0]
        refine ⟨_, rfl, cur, h, ?_⟩
        rw [e7']
        dsimp only
        rw [if_pos h0]
      · obtain ⟨s', e8, -⟩ := s_bring0 r7.2.2.2 w
        rw [if_neg h0, e8]
        refine ⟨_, rfl, cur, h, ?_⟩
        rw [e7']
        dsimp only
        rw [if_neg h0, e8])
    (fun n cur v hv h => Or.inr ⟨upd cur v 0, by
      intro j hj
      by_cases e : j = v
      · subst e; exact upd_eq
      · rw [upd_ne e]; exact h j (by omega), by
      show fl_X7_agreement_2 (n + 1) (nI z) mt mp mn w cur (nI v) = fl_X7_agreement_2 n (nI z) mt mp mn w _ (nI (v + 1))
      have l79 : ¬ (79 : Int32) ≤ nI v := nI_ge (b := 79) hv (by decide)
      rw [fl_X7_agreement_2, if_neg l79, if_neg (nI_in hv (by decide)), nI_clamp (by omega), nI_1]⟩)
    79 300 mr 0 (by omega) (by omega) (fun j h => absurd h (by omega))
  obtain ⟨cur, h, er2⟩ := hr
  have er' : f_X7_agreement (nI z) mt mp mn w mr = some r := er
  have hT : KT 0 dk dh db dp (upd cur 1 (w 1)) (w 1) := by
    refine ⟨⟨by omega, fun c hc => absurd hc (by omega)⟩, ⟨?_, fun c hc => absurd hc (by omega)⟩, ⟨?_, upd_eq, ?_, ?_, ?_⟩, ?_⟩
    · rw [upd_ne (by omega)]; exact h 5 (by omega)
    · rw [upd_ne (by omega)]; exact h 0 (by omega)
    · rw [upd_ne (by omega)]; exact h 2 (by omega)
    · rw [upd_ne (by omega)]; exact h 3 (by omega)
    · rw [upd_ne (by omega)]; exact h 4 (by omega)
    · rw [upd_ne (by omega)]; exact h 38 (by omega)
  obtain ⟨r6, r7, e6, e7, hout⟩ := s_agr hz hv ht (w 1) 8 300 300 0 0 mn dk dh db dp (upd cur 1 (w 1)) (by omega) (by omega) (by omega) (by omega) (by omega) hT
  have e7' : f_X7_isAgreement (nI z) mt (0 : Int32) mn (upd cur 1 (w 1)) = some r7 := e7
  have e6' : f_X3_readClauses dl dk dh db dp (0 : Int32) (nI z) (0 : Int32) = some r6 := e6
  rw [e7'] at er2
  dsimp only at er2
  rw [er']
  unfold f_X6_agreement f_X3_readTape
  rw [e6']
  dsimp only
  rcases hout with ⟨e, he, k1, k2, k3, k4⟩ | ⟨n', hn1, hn8, k1, k2, k3, k4⟩
  · rw [if_pos k2] at er2
    rw [if_pos k1]
    dsimp only
    rw [k3, if_pos (neg20 e (by omega))]
    have er3 := Option.some.inj er2
    subst er3
    refine ⟨_, _, rfl, rfl, ?_, ?_, ?_⟩
    · dsimp only
      rw [k4]
    · exact H
    · exact KD0
  · obtain ⟨s', e8, q8⟩ := s_bring0 r7.2.2.2 w
    have nz : ¬ r7.1 = 0 := by rw [k2]; decide
    have nz6 : ¬ r6.1 = 0 := by rw [k1]; decide
    rw [if_neg nz, e8] at er2
    dsimp only at er2
    have er3 := Option.some.inj er2
    subst er3
    rw [if_neg nz6]
    dsimp only
    rw [k3, if_neg (nI_nle (by omega) (by omega))]
    unfold f_X4_startWith f_X0_become
    dsimp only
    obtain ⟨hC, hW, hH, h38⟩ := k4
    refine ⟨_, _, rfl, rfl, ?_, ?_, KD0⟩
    · dsimp only
      rw [q8 5 (by omega)]
      exact hW.1.symm
    · dsimp only
      rw [tw hn8]
      have p3 : 0 < 2 ^ n' := Nat.two_pow_pos n'
      refine KR_mk (n := n') (k := 0) ⟨hn8, ?_⟩ ⟨(q8 5 (by omega)).trans hW.1, ?_⟩ ⟨⟨2 ^ n' - 1, by omega, rfl⟩, Or.inl rfl, ⟨0, by omega, rfl⟩, hgr⟩ ⟨(q8 _ (by omega)).trans hH.1, (q8 _ (by omega)).trans (hH.2.1.trans hdr), (q8 _ (by omega)).trans hH.2.2.1, (q8 _ (by omega)).trans hH.2.2.2.1, (q8 _ (by omega)).trans hH.2.2.2.2⟩ ⟨by omega, (q8 38 (by omega)).trans h38, fun j hj => absurd hj (by omega)⟩
      · intro c hc
        rw [cpy0 (by omega), cpy0 (by omega), cpy0 (by omega), cpy0 (by omega)]
        exact hC.2 c hc
      · intro c hc
        rw [cpy0 (by omega), cpy0 (by omega), cpy0 (by omega), cpy0 (by omega), q8 _ (by omega), q8 _ (by omega), q8 _ (by omega), q8 _ (by omega)]
        exact hW.2 c hc
