/-! 57: both readers side by side -/
theorem n10 : ¬ (1 : Int32) = 0 := by decide
theorem nl6 {dl : Nat → Int32} {z : Nat} (hz : z ≤ 100) (hv : ∀ i, i < z → ∃ v, 32 ≤ v ∧ v ≤ 126 ∧ dl i = nI v) {p : Nat} (hp : p ≤ z) : f_X3_nextLetter dl (nI z) (nI p) = some (g6 (sy dl z (nx dl z p)), nI (nx dl z p)) := s_next6 hz hv (z - p) p 300 (by omega) (by omega)
theorem nl7 {dl mt : Nat → Int32} {z : Nat} (hz : z ≤ 100) (hv : ∀ i, i < z → ∃ v, 32 ≤ v ∧ v ≤ 126 ∧ dl i = nI v) (ht : ∀ i, i < z → mt i = dl i) {p : Nat} (hp : p ≤ z) : f_X7_peek (nI z) mt (nI p) = some (nI (sy dl z (nx dl z p)), nI (nx dl z p)) := s_next7 hz hv ht (z - p) p 300 (by omega) (by omega)
theorem sy_in {dl : Nat → Int32} {z : Nat} (hv : ∀ i, i < z → ∃ v, 32 ≤ v ∧ v ≤ 126 ∧ dl i = nI v) {p : Nat} (h : sy dl z p ≠ 0) : p < z := by
  by_cases hp : p < z
  · exact hp
  · exact absurd ((sy_lt hv p).2.2 hp) h
theorem sy_nb {dl : Nat → Int32} {z : Nat} (hv : ∀ i, i < z → ∃ v, 32 ≤ v ∧ v ≤ 126 ∧ dl i = nI v) {p : Nat} (h : sy dl z p ≠ 32) : p < z → ¬ dl p = 32 := by
  intro hp e
  have h2 := ((sy_lt hv p).2.1 hp).2
  rw [e] at h2
  exact h ((nI_eq (a := 32) (by omega) (by have := (sy_lt hv p).1; omega)).mp h2).symm
theorem sg7 {dl mt : Nat → Int32} {z : Nat} (hz : z ≤ 100) (hv : ∀ i, i < z → ∃ v, 32 ≤ v ∧ v ≤ 126 ∧ dl i = nI v) (ht : ∀ i, i < z → mt i = dl i) {p : Nat} (hp : p ≤ z) (c : Nat) (hc : c < 127) : f_X7_isSign (nI z) mt (nI p) (nI c) = some (if sy dl z (nx dl z p) = c then (1, nI (nx dl z p + 1)) else (0, nI (nx dl z p))) := by
  unfold f_X7_isSign
  rw [nl7 hz hv ht hp]
  dsimp only
  have h1 := (sy_lt hv (nx dl z p)).1
  by_cases h : sy dl z (nx dl z p) = c
  · rw [if_pos h, if_pos (by rw [h]), nI_1]
  · rw [if_neg h, if_neg (fun e => h ((nI_eq (by omega) (by omega)).mp e))]
theorem dg7 {dl mt : Nat → Int32} {z : Nat} (hz : z ≤ 100) (hv : ∀ i, i < z → ∃ v, 32 ≤ v ∧ v ≤ 126 ∧ dl i = nI v) (ht : ∀ i, i < z → mt i = dl i) {p : Nat} (hp : p ≤ z) (num a b : Int32) : f_X7_isDigit (nI z) mt (nI p) num a b = if f_X6_isWithin (nI (sy dl z (nx dl z p)) - 48) a b = 0 then some (0, nI (nx dl z p), nI (sy dl z (nx dl z p)) - 48) else some (1, nI (nx dl z p + 1), nI (sy dl z (nx dl z p)) - 48) := by
  unfold f_X7_isDigit
  rw [nl7 hz hv ht hp]
  dsimp only
  rw [kb_in7, nI_1]
theorem g_sub6 {v : Nat} (h : 48 ≤ v) : g6 v - 48 = nI (v - 48) := by
  have e : g6 v = nI v := if_neg (by omega)
  rw [e]
  exact pk_sub (b := 48) h
theorem g_sub7 {v : Nat} (h : 48 ≤ v) : nI v - 48 = nI (v - 48) := pk_sub (b := 48) h
theorem g_bar7 : ∀ v, v < 127 → ∀ l, l < 9 → ∀ n, n < 9 → (f_X6_isWithin (nI v - 48) (nI l) (nI n - 1) = if 48 + l ≤ v ∧ v < 48 + n then 1 else 0) := by decide +kernel
theorem g_bar6 : ∀ v, v < 127 → ∀ l, l < 9 → (g6 v - 48 < nI l ↔ v < 48 + l) := by decide +kernel
theorem g_hold : ∀ a, a < 10 → ∀ b, b < 10 → (f_X6_isWithin (nI (10 * a + b)) 1 20 = if 1 ≤ 10 * a + b ∧ 10 * a + b ≤ 20 then 1 else 0) := by decide +kernel
theorem g_hold1 : ∀ a, a < 10 → (f_X6_isWithin (nI a) 1 20 = if 1 ≤ a then 1 else 0) := by decide +kernel
theorem ten (a b : Nat) (hb : 48 ≤ b) : ((10 : Int32) * nI a + nI b) - (48 : Int32) = nI (10 * a + (b - 48)) := by
  have e : (10 : Int32) * nI a = nI (10 * a) := pk_mul 10 a
  rw [e, nI_add]
  have e2 : nI (10 * a + b) - (48 : Int32) = nI (10 * a + b - 48) := pk_sub (b := 48) (by omega)
  rw [e2]
  congr 1
  omega
theorem s_tail {dl mt : Nat → Int32} {z : Nat} (hz : z ≤ 100) (hv : ∀ i, i < z → ∃ v, 32 ≤ v ∧ v ≤ 126 ∧ dl i = nI v) (ht : ∀ i, i < z → mt i = dl i) {n : Nat} (hn : n < 8) {dk dh db dp rd : Nat → Int32} {dr : Int32} (H : KT n dk dh db dp rd dr) {K h b : Nat} (hK : K < 5) (h1 : 1 ≤ h) (h2 : h ≤ 20) (hb : b < 2 ^ n) {p : Nat} (hp : p ≤ z) (num : Int32) :
    (∃ e x, e ≤ z ∧ tl6 dl dk dh db dp (nI n) (nI z) (nI p) (nI K) (nI h) (nI b) = some (0, dk, dh, db, dp, nI n, nI e) ∧ tl7 (nI z) mt (nI p) num rd (nI K) (nI h) (nI b) = some (0, nI e, x, rd)) ∨
    (∃ e x dk' dh' db' dp' rd', e ≤ z ∧ tl6 dl dk dh db dp (nI n) (nI z) (nI p) (nI K) (nI h) (nI b) = some (1, dk', dh', db', dp', nI (n + 1), nI e) ∧ tl7 (nI z) mt (nI p) num rd (nI K) (nI h) (nI b) = some (1, nI e, x, rd') ∧ KT (n + 1) dk' dh' db' dp' rd' dr) := by
  unfold tl6 tl7
  have sg := sg7 hz hv ht hp 64 (by omega)
  have sg' : f_X7_isSign (nI z) mt (nI p) (64 : Int32) = _ := sg
  rw [nl6 hz hv hp, sg']
  dsimp only
  have hq := nx_le (dl := dl) hp
  have hs := (sy_lt hv (nx dl z p)).1
  have ln : ¬ nI n < 0 := nI_pos (by omega)
  by_cases h64 : sy dl z (nx dl z p) = 64
  · have hqz : nx dl z p < z := sy_in hv (by omega)
    have g64 : g6 (sy dl z (nx dl z p)) = (64 : Int32) := (g_eq _ hs 64 (by omega) (by omega)).mpr h64
    rw [if_pos g64, if_pos h64]
    dsimp only
    rw [if_neg (by decide), nI_1, nl6 hz hv (by omega), dg7 hz hv ht (by omega)]
    dsimp only
    have hr := nx_le (dl := dl) (z := z) (p := nx dl z p + 1) (by omega)
    have hs2 := (sy_lt hv (nx dl z (nx dl z p + 1))).1
    unfold f_X6_isParty
    rw [g_par6 _ hs2, g_par7 _ hs2]
    by_cases hd : 48 ≤ sy dl z (nx dl z (nx dl z p + 1)) ∧ sy dl z (nx dl z (nx dl z p + 1)) ≤ 51
    · right
      have hrz : nx dl z (nx dl z p + 1) < z := sy_in hv (by omega)
      simp only [if_pos hd, n10, if_false]
      rw [g_sub6 hd.1, g_sub7 hd.1]
      obtain ⟨rd', e7, k7⟩ := s_add7 hn H hK h1 h2 hb (p := sy dl z (nx dl z (nx dl z p + 1)) - 48) (by omega)
      rw [s_add6 hn, e7, nI_1]
      dsimp only
      rw [if_neg ln]
      exact ⟨_, _, _, _, _, _, _, by omega, rfl, rfl, k7⟩
    · left
      simp only [if_neg hd, if_true]
      exact ⟨_, _, hr, rfl, rfl⟩
  · right
    have g64 : ¬ g6 (sy dl z (nx dl z p)) = (64 : Int32) := fun e => h64 ((g_eq _ hs 64 (by omega) (by omega)).mp e)
    obtain ⟨rd', e7, k7⟩ := s_add7 hn H hK h1 h2 hb (p := 0) (by omega)
    have e7' : f_X7_add_1 rd (nI K) (nI h) (nI b) (0 : Int32) = _ := e7
    rw [if_neg g64, if_neg h64, s_add6 hn]
    dsimp only
    rw [if_pos rfl, e7', if_neg ln]
    exact ⟨_, _, _, _, _, _, _, hq, rfl, rfl, k7⟩
theorem tl6_dig {dl : Nat → Int32} {z : Nat} (hz : z ≤ 100) (hv : ∀ i, i < z → ∃ v, 32 ≤ v ∧ v ≤ 126 ∧ dl i = nI v) {n : Nat} (hn : n < 8) (dk dh db dp : Nat → Int32) (K h b : Int32) {e : Nat} (he : e ≤ z) (hd : 48 ≤ sy dl z e ∧ sy dl z e ≤ 57) : ∃ r, tl6 dl dk dh db dp (nI n) (nI z) (nI e) K h b = some r ∧ r.1 = 1 ∧ r.2.2.2.2.2.2 = nI e := by
  unfold tl6
  have hx : nx dl z e = e := nx_fix (sy_nb hv (by omega))
  have hs := (sy_lt hv e).1
  have g64 : ¬ g6 (sy dl z e) = (64 : Int32) := fun q => by
    have := (g_eq _ hs 64 (by omega) (by omega)).mp q
    omega
  have ln : ¬ nI n < 0 := nI_pos (by omega)
  rw [nl6 hz hv he, hx]
  dsimp only
  rw [if_neg g64, s_add6 hn]
  dsimp only
  rw [if_neg ln]
  exact ⟨_, rfl, rfl, rfl⟩
theorem s_bars {dl mt : Nat → Int32} {z : Nat} (hz : z ≤ 100) (hv : ∀ i, i < z → ∃ v, 32 ≤ v ∧ v ≤ 126 ∧ dl i = nI v) (ht : ∀ i, i < z → mt i = dl i) {n : Nat} (hn : n < 8) {rd : Nat → Int32} (h5 : rd 5 = nI n) (K h : Int32) : ∀ (m f6 f7 p b l k : Nat) (num : Int32), l + m = n → 1 ≤ l → k ≤ l → p ≤ z → m < f6 → m < f7 → 0 < b → b < 2 ^ l →
    ∃ b' q, q ≤ z ∧ 0 < b' ∧ b' < 2 ^ n ∧ fl_X3_readBarred_6 f6 dl (nI n) (nI z) (nI p) (nI b) (nI l) (nI k) = some (nI b', nI q) ∧
      ((∃ num', fl_X7_isClauseItem_78 f7 (nI z) mt (nI p) num rd K h (nI b) (nI (l - 1)) = tl7 (nI z) mt (nI q) num' rd K h (nI b')) ∨ ((48 ≤ sy dl z q ∧ sy dl z q ≤ 57) ∧ ∃ x, fl_X7_isClauseItem_78 f7 (nI z) mt (nI p) num rd K h (nI b) (nI (l - 1)) = some (0, nI q, x, rd))) := by
  intro m
  induction m using Nat.strongRecOn with
  | ind m ih =>
    intro f6 f7 p b l k num hlm hl hk hp hf6 hf7 hb hbl
    obtain ⟨f6, rfl⟩ : ∃ a, f6 = a + 1 := ⟨f6 - 1, by omega⟩
    obtain ⟨f7, rfl⟩ : ∃ a, f7 = a + 1 := ⟨f7 - 1, by omega⟩
    have hq := nx_le (dl := dl) hp
    have hs := (sy_lt hv (nx dl z p)).1
    have p2 : 2 ^ l ≤ 2 ^ n := Nat.pow_le_pow_right (by omega) (by omega)
    rw [fl_X3_readBarred_6, if_neg (kb8 (by omega)), nl6 hz hv hp, fl_X7_isClauseItem_78, nl7 hz hv ht hp]
    dsimp only
    rw [kb_in7, g_dig8 _ hs]
    have e1 : nI (l - 1) + (1 : Int32) = nI l := by
      rw [nI_1]
      congr 1
      omega
    by_cases hd : 48 ≤ sy dl z (nx dl z p) ∧ sy dl z (nx dl z p) ≤ 57
    · simp only [if_pos hd, n10, if_false]
      rw [dg7 hz hv ht hq, nx_nx hp, e1, h5, g_bar7 _ hs l (by omega) n (by omega)]
      by_cases h1 : sy dl z (nx dl z p) < 48 + l
      · have hA : ¬ (48 + l ≤ sy dl z (nx dl z p) ∧ sy dl z (nx dl z p) < 48 + n) := by omega
        rw [if_pos ((g_bar6 _ hs l (by omega)).mpr h1)]
        simp only [if_neg hA, if_true]
        exact ⟨b, nx dl z p, hq, hb, by omega, rfl, Or.inr ⟨hd, _, rfl⟩⟩
      · rw [if_neg (fun q => h1 ((g_bar6 _ hs l (by omega)).mp q))]
        by_cases h2 : sy dl z (nx dl z p) < 48 + n
        · have hqz : nx dl z p < z := sy_in hv (by omega)
          have hA : 48 + l ≤ sy dl z (nx dl z p) ∧ sy dl z (nx dl z p) < 48 + n := by omega
          obtain ⟨d, ed⟩ : ∃ d, sy dl z (nx dl z p) = 48 + d := ⟨sy dl z (nx dl z p) - 48, by omega⟩
          have g6d : g6 (sy dl z (nx dl z p)) - 48 = nI d := by
            rw [g_sub6 (by omega)]
            exact congrArg nI (by omega)
          have g7d : nI (sy dl z (nx dl z p)) - 48 = nI d := by
            rw [g_sub7 (by omega)]
            exact congrArg nI (by omega)
          have hlt : nI d < nI n := nI_lt (by omega) (by omega)
          simp only [if_pos hA, n10, if_false]
          rw [g6d, g7d, if_pos hlt, kb_bt d (by omega), kb_or, nI_1, nI_1, nI_1]
          have p3 : 2 ^ l ≤ 2 ^ d := Nat.pow_le_pow_right (by omega) (by omega)
          have p4 : 2 ^ (d + 1) = 2 ^ d * 2 := Nat.pow_succ ..
          have hor : b ||| 2 ^ d < 2 ^ (d + 1) := Nat.or_lt_two_pow (by omega) (by omega)
          exact ih (n - (d + 1)) (by omega) f6 f7 (nx dl z p + 1) (b ||| 2 ^ d) (d + 1) (k + 1) (nI d) (by omega) (by omega) (by omega) (by omega) (by omega) (by omega) (Nat.lt_of_lt_of_le hb Nat.left_le_or) hor
        · have hlt : ¬ g6 (sy dl z (nx dl z p)) - 48 < nI n := fun q => h2 ((g_bar6 _ hs n (by omega)).mp q)
          have hA : ¬ (48 + l ≤ sy dl z (nx dl z p) ∧ sy dl z (nx dl z p) < 48 + n) := by omega
          rw [if_neg hlt]
          simp only [if_neg hA, if_true]
          exact ⟨b, nx dl z p, hq, hb, by omega, rfl, Or.inr ⟨hd, _, rfl⟩⟩
    · simp only [if_neg hd, if_true]
      refine ⟨b, nx dl z p, hq, hb, by omega, ?_, Or.inl ⟨num, rfl⟩⟩
      by_cases h1 : sy dl z (nx dl z p) < 48 + l
      · rw [if_pos ((g_bar6 _ hs l (by omega)).mpr h1)]
      · rw [if_neg (fun q => h1 ((g_bar6 _ hs l (by omega)).mp q)), if_neg (fun q => by
          have := (g_bar6 _ hs n (by omega)).mp q
          omega)]
theorem s_num {dl mt : Nat → Int32} {z : Nat} (hz : z ≤ 100) (hv : ∀ i, i < z → ∃ v, 32 ≤ v ∧ v ≤ 126 ∧ dl i = nI v) (ht : ∀ i, i < z → mt i = dl i) {p : Nat} (hp : p ≤ z) (num : Int32) :
    (∃ e x, e ≤ z ∧ f_X3_readHolds dl (nI z) (nI p) = some (-1, nI e) ∧ f_X7_isNumber (nI z) mt (nI p) num = some (0, nI e, x)) ∨
    (∃ e h, e ≤ z ∧ 1 ≤ h ∧ h ≤ 20 ∧ f_X3_readHolds dl (nI z) (nI p) = some (nI h, nI e) ∧ (f_X7_isNumber (nI z) mt (nI p) num = some (1, nI e, nI h) ∨ ((48 ≤ sy dl z e ∧ sy dl z e ≤ 57) ∧ ∃ x, f_X7_isNumber (nI z) mt (nI p) num = some (0, nI e, x)))) := by
  have hq := nx_le (dl := dl) hp
  have hs := (sy_lt hv (nx dl z p)).1
  unfold f_X3_readHolds f_X7_isNumber
  rw [nl6 hz hv hp, dg7 hz hv ht hp, g_dig7 _ hs]
  dsimp only
  rw [g_dig6 _ hs]
  by_cases hd : 48 ≤ sy dl z (nx dl z p) ∧ sy dl z (nx dl z p) ≤ 57
  · have hqz : nx dl z p < z := sy_in hv (by omega)
    obtain ⟨d, ed⟩ : ∃ d, sy dl z (nx dl z p) = 48 + d := ⟨sy dl z (nx dl z p) - 48, by omega⟩
    have g6d : g6 (sy dl z (nx dl z p)) - 48 = nI d := by
      rw [g_sub6 (by omega)]
      exact congrArg nI (by omega)
    have g7d : nI (sy dl z (nx dl z p)) - 48 = nI d := by
      rw [g_sub7 (by omega)]
      exact congrArg nI (by omega)
    simp only [if_pos hd, n10, if_false]
    rw [s_at hz hv (by omega), nI_1, s_at hz hv (by omega)]
    dsimp only
    simp only [kb_in7]
    rw [g6d, g7d, g_hold1 d (by omega)]
    obtain ⟨hs2, hs3, hs4⟩ := sy_lt hv (nx dl z p + 1)
    rw [g_dig6 _ hs2]
    by_cases hqe : nx dl z p + 1 = z
    · have hv2 : sy dl z (nx dl z p + 1) = 0 := hs4 (by omega)
      have hA : ¬ (48 ≤ sy dl z (nx dl z p + 1) ∧ sy dl z (nx dl z p + 1) ≤ 57) := by omega
      have hB : nI z ≤ nI (nx dl z p + 1) := nI_le (by omega) (by omega)
      have hE : nI (nx dl z p + 1) = nI z := by rw [hqe]
      by_cases h1 : 1 ≤ d
      · simp only [if_neg hA, if_pos hB, if_pos h1, n10, if_false, if_true, if_pos hE]
        exact Or.inr ⟨_, d, by omega, h1, by omega, rfl, Or.inl rfl⟩
      · simp only [if_neg hA, if_pos hB, if_neg h1, if_true]
        rw [nI_pred]
        exact Or.inl ⟨_, _, hq, rfl, rfl⟩
    · obtain ⟨hs5, hs6⟩ := hs3 (by omega)
      have ix : ¬ (nI (nx dl z p + 1) < 0 ∨ 100 ≤ (nI (nx dl z p + 1)).toNatClampNeg) := nI_in (by omega) (by decide)
      have hne : ¬ nI (nx dl z p + 1) = nI z := fun e => hqe ((nI_eq (by omega) (by omega)).mp e)
      have hB : ¬ nI z ≤ nI (nx dl z p + 1) := nI_ge (by omega) (by omega)
      simp only [if_neg hB, if_neg ix]
      rw [nI_clamp (n := nx dl z p + 1) (by omega), ht _ (by omega), hs6, g_dig8 _ hs2]
      by_cases hd2 : 48 ≤ sy dl z (nx dl z p + 1) ∧ sy dl z (nx dl z p + 1) ≤ 57
      · obtain ⟨d2, ed2⟩ : ∃ d2, sy dl z (nx dl z p + 1) = 48 + d2 := ⟨sy dl z (nx dl z p + 1) - 48, by omega⟩
        have gg : g6 (sy dl z (nx dl z p + 1)) = nI (sy dl z (nx dl z p + 1)) := if_neg (by omega)
        have e2 : sy dl z (nx dl z p + 1) - 48 = d2 := by omega
        simp only [if_pos hd2, n10, if_false]
        rw [gg, ten d _ hd2.1, e2, g_hold d (by omega) d2 (by omega)]
        by_cases h1 : 1 ≤ 10 * d + d2 ∧ 10 * d + d2 ≤ 20
        · simp only [if_pos h1, n10, if_false]
          rw [nI_1]
          by_cases h3 : nx dl z p + 1 + 1 = z
          · rw [if_pos (show nI (nx dl z p + 1 + 1) = nI z by rw [h3])]
            exact Or.inr ⟨_, _, by omega, h1.1, h1.2, rfl, Or.inl rfl⟩
          · have hne2 : ¬ nI (nx dl z p + 1 + 1) = nI z := fun e => h3 ((nI_eq (by omega) (by omega)).mp e)
            obtain ⟨hs7, hs8, -⟩ := sy_lt hv (nx dl z p + 1 + 1)
            rw [if_neg hne2, if_neg (nI_in (by omega) (by decide)), nI_clamp (n := nx dl z p + 1 + 1) (by omega), ht _ (by omega), (hs8 (by omega)).2, g_dig8 _ hs7]
            by_cases hd3 : 48 ≤ sy dl z (nx dl z p + 1 + 1) ∧ sy dl z (nx dl z p + 1 + 1) ≤ 57
            · simp only [if_pos hd3, n10, if_false]
              exact Or.inr ⟨_, _, by omega, h1.1, h1.2, rfl, Or.inr ⟨hd3, _, rfl⟩⟩
            · simp only [if_neg hd3, if_true]
              exact Or.inr ⟨_, _, by omega, h1.1, h1.2, rfl, Or.inl rfl⟩
        · simp only [if_neg h1, if_true]
          rw [nI_pred]
          exact Or.inl ⟨_, _, hq, rfl, rfl⟩
      · by_cases h1 : 1 ≤ d
        · simp only [if_neg hd2, if_pos h1, n10, if_false, if_true, if_neg hne]
          exact Or.inr ⟨_, d, by omega, h1, by omega, rfl, Or.inl rfl⟩
        · simp only [if_neg hd2, if_neg h1, if_true]
          rw [nI_pred]
          exact Or.inl ⟨_, _, hq, rfl, rfl⟩
  · left
    simp only [if_neg hd, if_true]
    exact ⟨_, _, hq, rfl, rfl⟩
