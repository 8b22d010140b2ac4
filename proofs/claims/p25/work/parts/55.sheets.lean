/-! 55: sheets -/
def KS (sl ss : Nat → Int32) (si : Nat → Int64) (ml ms : Nat → Int32) (mi : Nat → Int64) : Prop := ∀ s, s < 4 → ml s = sl s ∧ (sl s = -1 ∨ ∃ l, l < 4 ∧ sl s = nI l) ∧ ∃ z, z ≤ 24 ∧ ss s = nI z ∧ ms s = nI z ∧ ∀ i, i < z → mi (24 * s + i) = si (24 * s + i)
theorem uL_eq {f : Nat → Int64} {k : Nat} {x : Int64} : vp_updL f k x k = x := if_pos rfl
theorem uL_ne {f : Nat → Int64} {k j : Nat} {x : Int64} (h : j ≠ k) : vp_updL f k x j = f j := if_neg h
theorem m24 (s i : Nat) : nI s * (24 : Int32) + nI i = nI (24 * s + i) := by
  have e : nI s * (24 : Int32) = nI (s * 24) := pk_mul s 24
  rw [e, nI_add, Nat.mul_comm]
theorem m24' (s i : Nat) : (24 : Int32) * nI s + nI i = nI (24 * s + i) := by
  have e : (24 : Int32) * nI s = nI (24 * s) := pk_mul 24 s
  rw [e, nI_add]
theorem s_ins {ss : Nat → Int32} {s z : Nat} (hs : s < 4) (hz : z ≤ 24) (e : ss s = nI z) (i n : Int32) : (f_X5_isInside ss (nI s) i n = some 0 ∧ f_X7_isPart i n (nI z) = 0) ∨ (∃ i' n', i = nI i' ∧ n = nI n' ∧ i' + n' ≤ z ∧ f_X5_isInside ss (nI s) i n = some 1 ∧ f_X7_isPart i n (nI z) = 1) := by
  unfold f_X5_isInside f_X7_isPart
  by_cases hi : i < 0
  · left
    rw [if_pos hi]
    refine ⟨rfl, ?_⟩
    by_cases hn : n < 0
    · rw [if_pos hn]
    · rw [if_neg hn, if_pos hi]
  by_cases hn : n < 0
  · left
    rw [if_neg hi, if_pos hn, if_pos hn]
    exact ⟨rfl, rfl⟩
  obtain ⟨a, ha, rfl⟩ := nI_of hi
  obtain ⟨b, hb, rfl⟩ := nI_of hn
  rw [if_neg hi, if_neg hn, if_neg hn, if_neg hi, if_neg (nI_in hs (by decide)), nI_clamp (by omega), e]
  by_cases hbz : b ≤ z
  · rw [if_neg (nI_nlt hbz (by omega)), pk_sub hbz]
    by_cases hc : z - b < a
    · left
      rw [if_pos (nI_lt hc (by omega)), if_pos (nI_lt hc (by omega))]
      exact ⟨rfl, rfl⟩
    · right
      rw [if_neg (nI_nlt (by omega) (by omega)), if_neg (nI_nlt (by omega) (by omega))]
      exact ⟨a, b, rfl, rfl, by omega, rfl, rfl⟩
  · left
    have hlt : nI z - nI b < nI a := by
      rw [Int32.lt_iff_toInt_lt, Int32.toInt_sub, nI_toInt (by omega), nI_toInt (by omega), nI_toInt (by omega)]
      unfold Int.bmod
      dsimp only
      split <;> omega
    rw [if_pos hlt, if_pos (nI_lt (by omega) (by omega))]
    exact ⟨rfl, rfl⟩
theorem s_lane {sl ss : Nat → Int32} {si : Nat → Int64} {ml ms : Nat → Int32} {mi : Nat → Int64} (H : KS sl ss si ml ms mi) {s : Nat} (hs : s < 4) : (sl s = -1 ∧ ¬ (0 : Int32) ≤ ml s ∧ ml s < 0) ∨ (¬ sl s = -1 ∧ (0 : Int32) ≤ ml s ∧ ¬ ml s < 0) := by
  obtain ⟨e, h, -⟩ := H s hs
  rw [e]
  rcases h with h | ⟨l, hl, h⟩
  · left
    rw [h]
    decide
  · right
    have hh : ∀ l : Nat, l < 4 → ¬ nI l = -1 ∧ (0 : Int32) ≤ nI l ∧ ¬ nI l < 0 := by decide
    rw [h]
    exact hh l hl
theorem s_fault {sl ss : Nat → Int32} {si : Nat → Int64} {ml ms : Nat → Int32} {mi : Nat → Int64} (H : KS sl ss si ml ms mi) {s : Nat} (hs : s < 4) (p2 p3 p4 : Int32) :
    (∃ r, ¬ r = 0 ∧ f_X5_faultOf sl ss (nI s) p2 p3 p4 = some r ∧ f_X7_wrong ml ms (nI s) p2 p3 p4 = some r) ∨ (∃ z i n, z ≤ 24 ∧ ss s = nI z ∧ p3 = nI i ∧ p4 = nI n ∧ i + n ≤ z ∧ sl s = p2 ∧ f_X5_faultOf sl ss (nI s) p2 p3 p4 = some 0 ∧ f_X7_wrong ml ms (nI s) p2 p3 p4 = some 0) := by
  obtain ⟨e, h, z, hz, e1, e2, -⟩ := H s hs
  have ix : ¬ (nI s < 0 ∨ 4 ≤ (nI s).toNatClampNeg) := nI_in hs (by decide)
  unfold f_X5_faultOf f_X7_wrong
  simp only [if_neg ix]
  rw [nI_clamp (by omega)]
  rcases s_lane H hs with ⟨h1, h2, -⟩ | ⟨h1, h2, -⟩
  · left
    rw [if_pos h1, if_neg h2]
    exact ⟨-11, by decide, rfl, rfl⟩
  · rw [if_neg h1, if_pos h2, e]
    by_cases h3 : sl s = p2
    · rw [if_pos h3, if_pos h3, e2]
      rcases s_ins hs hz e1 p3 p4 with ⟨k1, k2⟩ | ⟨i, n, rfl, rfl, hin, k1, k2⟩
      · left
        rw [k1, k2]
        exact ⟨-13, by decide, rfl, rfl⟩
      · right
        rw [k1, k2]
        exact ⟨z, i, n, hz, e1, rfl, rfl, hin, h3, rfl, rfl⟩
    · left
      rw [if_neg h3, if_neg h3]
      exact ⟨-12, by decide, rfl, rfl⟩
theorem s_put {sl ss : Nat → Int32} {si : Nat → Int64} {s z i : Nat} (hs : s < 4) (hz : z ≤ 24) (e : ss s = nI z) (hi : i < z) (v : Int64) : f_X5_put sl ss si (nI s) (nI i) v = some (vp_updL si (24 * s + i) (f_X5_lowestBits (sl s) v)) := by
  unfold f_X5_put
  have k : f_X5_isInside ss (nI s) (nI i) (1 : Int32) = some 1 := by
    rcases s_ins hs hz e (nI i) (nI 1) with ⟨k1, k2⟩ | ⟨i', n', -, -, -, k1, -⟩
    · exfalso
      unfold f_X7_isPart at k2
      rw [if_neg (nI_pos (by omega)), if_neg (nI_pos (by omega)), if_neg (nI_nlt (by omega) (by omega)), pk_sub (by omega), if_neg (nI_nlt (by omega) (by omega))] at k2
      exact absurd k2 (by decide)
    · exact k1
  rw [k]
  dsimp only
  rw [if_neg (by decide), if_neg (nI_in hs (by decide)), m24, if_neg (nI_in (by omega) (by decide)), nI_clamp (n := s) (by omega), nI_clamp (n := 24 * s + i) (by omega)]
theorem lb0 (l : Int32) : f_X5_lowestBits l 0 = 0 := by
  unfold f_X5_lowestBits
  split
  · decide
  · split
    · decide
    · split
      · decide
      · rfl
theorem ko_sheet {sl ss : Nat → Int32} {si : Nat → Int64} {ml ms : Nat → Int32} {mi : Nat → Int64} (H : KS sl ss si ml ms mi) (a1 a2 a3 : Int32) :
    ∃ q1 q2, f_X6_sheet sl ss si a1 a2 a3 = some q1 ∧ f_X7_sheet ml ms mi a1 a2 a3 = some q2 ∧ q1.1 = q2.1 ∧ KS q1.2.1 q1.2.2.1 q1.2.2.2 q2.2.1 q2.2.2.1 q2.2.2.2 := by
  unfold f_X6_sheet f_X7_sheet f_X6_isSheet f_X6_isLane f_X7_isSheet
  rw [kb_in7, kb_in7]
  by_cases c1 : f_X6_isWithin a1 (0 : Int32) (3 : Int32) = 0
  · rw [if_pos c1, if_pos c1]; exact ⟨_, _, rfl, rfl, rfl, H⟩
  rw [if_neg c1, if_neg c1]
  by_cases c2 : f_X6_isWithin a2 (0 : Int32) (3 : Int32) = 0
  · rw [if_pos c2, if_pos c2]; exact ⟨_, _, rfl, rfl, rfl, H⟩
  rw [if_neg c2, if_neg c2]
  by_cases c3 : a3 ≤ (24 : Int32)
  · rw [if_pos c3, if_pos c3]
    by_cases c4 : (0 : Int32) ≤ a3
    · rw [if_pos c4, if_pos c4]
      obtain ⟨s, -, hs, rfl⟩ := kb_win (a := 0) (b := 3) (by omega) (by omega) c1
      obtain ⟨l, -, hl, rfl⟩ := kb_win (a := 0) (b := 3) (by omega) (by omega) c2
      obtain ⟨z, hz, rfl⟩ := nI_of2 (M := (24 : Int32)) (n := 24) (by decide) (Int32.not_lt.mpr c4) c3
      have ix : ¬ (nI s < 0 ∨ 4 ≤ (nI s).toNatClampNeg) := nI_in (by omega) (by decide)
      unfold f_X5_lay
      rw [if_neg ix, if_neg ix, if_neg ix, if_neg ix, nI_clamp (by omega)]
      obtain ⟨r1, e1, q1⟩ := lp (fun n cur v => fl_X5_lay_17 n (upd sl s (nI l)) (upd ss s (nI z)) cur (nI s) (nI z) (nI v)) z (fun v cur => (∀ i, i < v → cur (24 * s + i) = 0) ∧ (∀ j, j < 24 * s ∨ 24 * s + 24 ≤ j → cur j = si j)) (fun r => r.1 = upd sl s (nI l) ∧ r.2.1 = upd ss s (nI z) ∧ (∀ i, i < z → r.2.2 (24 * s + i) = 0) ∧ (∀ j, j < 24 * s ∨ 24 * s + 24 ≤ j → r.2.2 j = si j))
        (fun n cur h => ⟨_, by
          show fl_X5_lay_17 (n + 1) (upd sl s (nI l)) (upd ss s (nI z)) cur (nI s) (nI z) (nI z) = some (upd sl s (nI l), upd ss s (nI z), cur)
          rw [fl_X5_lay_17, if_pos (Int32.le_refl _)], rfl, rfl, h⟩)
        (fun n cur v hv h => Or.inr ⟨vp_updL cur (24 * s + v) 0, by
          constructor
          · intro i hi
            by_cases e : i = v
            · subst e; exact uL_eq
            · rw [uL_ne (by omega)]; exact h.1 i (by omega)
          · intro j hj
            rw [uL_ne (by omega)]; exact h.2 j hj, by
          show fl_X5_lay_17 (n + 1) (upd sl s (nI l)) (upd ss s (nI z)) cur (nI s) (nI z) (nI v) = fl_X5_lay_17 n _ _ _ (nI s) (nI z) (nI (v + 1))
          rw [fl_X5_lay_17, if_neg (nI_ge hv (by omega)), s_put (by omega) hz upd_eq hv, lb0]
          dsimp only
          rw [nI_1]⟩)
        z 300 si 0 (by omega) (by omega) ⟨fun i h => absurd h (by omega), fun j _ => rfl⟩
      obtain ⟨r2, e2, q2⟩ := lp (fun n cur v => fl_X7_sheet_48 n (upd ml s (nI l)) (upd ms s (nI z)) cur (nI s) (nI z) (nI v)) 24 (fun v cur => (∀ i, i < v → cur (24 * s + i) = 0) ∧ (∀ j, j < 24 * s ∨ 24 * s + 24 ≤ j → cur j = mi j)) (fun r => r.1 = nI z ∧ r.2.1 = upd ml s (nI l) ∧ r.2.2.1 = upd ms s (nI z) ∧ (∀ i, i < 24 → r.2.2.2 (24 * s + i) = 0) ∧ (∀ j, j < 24 * s ∨ 24 * s + 24 ≤ j → r.2.2.2 j = mi j))
        (fun n cur h => ⟨_, by
          show fl_X7_sheet_48 (n + 1) (upd ml s (nI l)) (upd ms s (nI z)) cur (nI s) (nI z) (nI 24) = some (nI z, upd ml s (nI l), upd ms s (nI z), cur)
          rw [fl_X7_sheet_48, if_pos (by decide)], rfl, rfl, rfl, h⟩)
        (fun n cur v hv h => Or.inr ⟨vp_updL cur (24 * s + v) 0, by
          constructor
          · intro i hi
            by_cases e : i = v
            · subst e; exact uL_eq
            · rw [uL_ne (by omega)]; exact h.1 i (by omega)
          · intro j hj
            rw [uL_ne (by omega)]; exact h.2 j hj, by
          show fl_X7_sheet_48 (n + 1) (upd ml s (nI l)) (upd ms s (nI z)) cur (nI s) (nI z) (nI v) = fl_X7_sheet_48 n _ _ _ (nI s) (nI z) (nI (v + 1))
          have l24 : ¬ (24 : Int32) ≤ nI v := nI_ge (b := 24) hv (by decide)
          rw [fl_X7_sheet_48, if_neg l24, m24', if_neg (nI_in (by omega) (by decide)), nI_clamp (by omega), nI_1]⟩)
        24 300 mi 0 (by omega) (by omega) ⟨fun i h => absurd h (by omega), fun j _ => rfl⟩
      have e1' : fl_X5_lay_17 300 (upd sl s (nI l)) (upd ss s (nI z)) si (nI s) (nI z) (0 : Int32) = some r1 := e1
      have e2' : fl_X7_sheet_48 300 (upd ml s (nI l)) (upd ms s (nI z)) mi (nI s) (nI z) (0 : Int32) = some r2 := e2
      rw [e1', e2']
      refine ⟨_, _, rfl, rfl, q2.1.symm, ?_⟩
      dsimp only
      rw [q1.1, q1.2.1, q2.2.1, q2.2.2.1]
      intro u hu
      by_cases e : u = s
      · subst e
        rw [upd_eq, upd_eq, upd_eq, upd_eq]
        refine ⟨rfl, Or.inr ⟨l, by omega, rfl⟩, z, hz, rfl, rfl, ?_⟩
        intro i hi
        rw [q1.2.2.1 i hi, q2.2.2.2.1 i (by omega)]
      · rw [upd_ne e, upd_ne e, upd_ne e, upd_ne e]
        obtain ⟨k1, k2, y, hy, k3, k4, k5⟩ := H u hu
        refine ⟨k1, k2, y, hy, k3, k4, ?_⟩
        intro i hi
        rw [q1.2.2.2 _ (by omega), q2.2.2.2.2 _ (by omega)]
        exact k5 i hi
    · rw [if_neg c4, if_neg c4]; exact ⟨_, _, rfl, rfl, rfl, H⟩
  · rw [if_neg c3, if_neg c3]; exact ⟨_, _, rfl, rfl, rfl, H⟩
theorem ko_drop {sl ss : Nat → Int32} {si : Nat → Int64} {ml ms : Nat → Int32} {mi : Nat → Int64} (H : KS sl ss si ml ms mi) (a1 : Int32) :
    ∃ q1 q2, f_X6_drop sl ss a1 = some q1 ∧ f_X7_drop ml ms a1 = some q2 ∧ q1.1 = q2.1 ∧ KS q1.2 ss si q2.2 ms mi := by
  unfold f_X6_drop f_X7_drop f_X6_isSheet f_X7_isSheet f_X5_takeAway
  rw [kb_in7]
  by_cases c1 : f_X6_isWithin a1 (0 : Int32) (3 : Int32) = 0
  · rw [if_pos c1, if_pos c1]; exact ⟨_, _, rfl, rfl, rfl, H⟩
  rw [if_neg c1, if_neg c1]
  obtain ⟨s, -, hs, rfl⟩ := kb_win (a := 0) (b := 3) (by omega) (by omega) c1
  have ix : ¬ (nI s < 0 ∨ 4 ≤ (nI s).toNatClampNeg) := nI_in (by omega) (by decide)
  simp only [if_neg ix]
  rw [nI_clamp (by omega)]
  rcases s_lane H (show s < 4 by omega) with ⟨h1, h2, -⟩ | ⟨h1, h2, -⟩
  · rw [if_pos h1, if_neg h2]; exact ⟨_, _, rfl, rfl, rfl, H⟩
  · rw [if_neg h1, if_pos h2]
    obtain ⟨-, -, z, hz, e1, e2, -⟩ := H s (by omega)
    refine ⟨_, _, rfl, rfl, e1.trans e2.symm, ?_⟩
    dsimp only
    intro u hu
    obtain ⟨k1, k2, k3⟩ := H u hu
    by_cases e : u = s
    · subst e
      rw [upd_eq, upd_eq]
      exact ⟨rfl, Or.inl rfl, k3⟩
    · rw [upd_ne e, upd_ne e]
      exact ⟨k1, k2, k3⟩
/-- both write the same at one place -/
theorem KS_put {sl ss : Nat → Int32} {si : Nat → Int64} {ml ms : Nat → Int32} {mi : Nat → Int64} (H : KS sl ss si ml ms mi) (k : Nat) (v : Int64) : KS sl ss (vp_updL si k v) ml ms (vp_updL mi k v) := by
  intro u hu
  obtain ⟨k1, k2, z, hz, k3, k4, k5⟩ := H u hu
  refine ⟨k1, k2, z, hz, k3, k4, ?_⟩
  intro i hi
  by_cases e : 24 * u + i = k
  · rw [e, uL_eq, uL_eq]
  · rw [uL_ne e, uL_ne e]; exact k5 i hi
theorem ko_item {sl ss : Nat → Int32} {si : Nat → Int64} {ml ms : Nat → Int32} {mi : Nat → Int64} (H : KS sl ss si ml ms mi) (a1 a2 a3 : Int32) (v : Int64) :
    ∃ q1 q2, f_X6_item sl ss si a1 a2 a3 v = some q1 ∧ f_X7_item ml ms mi a1 a2 a3 v = some q2 ∧ q1.1 = q2.1 ∧ KS sl ss q1.2 ml ms q2.2 := by
  unfold f_X6_item f_X7_item f_X6_isSheet f_X7_isSheet f_X6_isLane
  rw [kb_in7, kb_in7]
  by_cases c1 : f_X6_isWithin a1 (0 : Int32) (3 : Int32) = 0
  · rw [if_pos c1, if_pos c1]; exact ⟨_, _, rfl, rfl, rfl, H⟩
  rw [if_neg c1, if_neg c1]
  by_cases c2 : f_X6_isWithin a2 (0 : Int32) (3 : Int32) = 0
  · rw [if_pos c2, if_pos c2]; exact ⟨_, _, rfl, rfl, rfl, H⟩
  rw [if_neg c2, if_neg c2]
  obtain ⟨s, -, hs, rfl⟩ := kb_win (a := 0) (b := 3) (by omega) (by omega) c1
  rcases s_fault H (show s < 4 by omega) a2 a3 1 with ⟨r, h0, k1, k2⟩ | ⟨z, i, n, hz, e1, rfl, e3, hin, e4, k1, k2⟩
  · rw [k1, k2]
    dsimp only
    rw [if_neg h0, if_neg h0]
    exact ⟨_, _, rfl, rfl, rfl, H⟩
  · have hn1 : n = 1 := by
      by_cases hn : n < 2 ^ 31
      · exact ((nI_eq (a := 1) (b := n) (by omega) hn).mp e3).symm
      · omega
    rw [k1, k2]
    dsimp only
    rw [if_pos rfl, if_pos rfl, s_put (by omega) hz e1 (by omega), m24']
    simp only [if_neg (nI_in (c := 24 * s + i) (N := 96) (by omega) (by decide))]
    rw [nI_clamp (by omega), e4]
    unfold f_X5_lowestBits
    by_cases d0 : a2 = 0
    · simp only [if_pos d0]
      exact ⟨_, _, rfl, rfl, rfl, KS_put H _ _⟩
    simp only [if_neg d0]
    by_cases d1 : a2 = 1
    · simp only [if_pos d1]
      exact ⟨_, _, rfl, rfl, rfl, KS_put H _ _⟩
    simp only [if_neg d1]
    by_cases d2 : a2 = 2
    · simp only [if_pos d2]
      exact ⟨_, _, rfl, rfl, rfl, KS_put H _ _⟩
    simp only [if_neg d2]
    exact ⟨_, _, rfl, rfl, rfl, KS_put H _ _⟩
/-- the reference's copy, forward and backward -/
theorem s_cpf (ml ms : Nat → Int32) (mi : Nat → Int64) (f i t j n : Nat) (ha : 24 * f + i + n ≤ 96) (hb : 24 * t + j + n ≤ 96) (hab : 24 * t + j ≤ 24 * f + i ∨ 24 * f + i + n ≤ 24 * t + j) :
    ∃ r, fl_X7_copy_110 300 ml ms mi (nI f) (nI i) (nI t) (nI j) (nI n) (0 : Int32) (0 : Int32) = some r ∧ r.1 = nI n ∧ (∀ k, k < n → r.2 (24 * t + j + k) = mi (24 * f + i + k)) ∧ (∀ x, x < 24 * t + j ∨ 24 * t + j + n ≤ x → r.2 x = mi x) :=
  lp (fun m cur v => fl_X7_copy_110 m ml ms cur (nI f) (nI i) (nI t) (nI j) (nI n) (0 : Int32) (nI v)) n (fun v cur => (∀ k, k < v → cur (24 * t + j + k) = mi (24 * f + i + k)) ∧ (∀ x, x < 24 * t + j ∨ 24 * t + j + v ≤ x → cur x = mi x)) _
    (fun m cur h => ⟨_, by
      show fl_X7_copy_110 (m + 1) ml ms cur (nI f) (nI i) (nI t) (nI j) (nI n) (0 : Int32) (nI n) = some (nI n, cur)
      rw [fl_X7_copy_110, if_pos (Int32.le_refl _)], rfl, h⟩)
    (fun m cur v hv h => Or.inr ⟨vp_updL cur (24 * t + j + v) (cur (24 * f + i + v)), by
      constructor
      · intro k hk
        by_cases e : k = v
        · subst e; rw [uL_eq]; exact h.2 _ (by omega)
        · rw [uL_ne (by omega)]; exact h.1 k (by omega)
      · intro x hx
        rw [uL_ne (by omega)]; exact h.2 x (by omega), by
      show fl_X7_copy_110 (m + 1) ml ms cur (nI f) (nI i) (nI t) (nI j) (nI n) (0 : Int32) (nI v) = fl_X7_copy_110 m ml ms _ (nI f) (nI i) (nI t) (nI j) (nI n) (0 : Int32) (nI (v + 1))
      rw [fl_X7_copy_110, if_neg (nI_ge hv (by omega)), if_pos rfl, m24', m24', nI_add, nI_add, if_neg (nI_in (by omega) (by decide)), if_neg (nI_in (by omega) (by decide)), nI_clamp (n := 24 * f + i + v) (by omega), nI_clamp (n := 24 * t + j + v) (by omega), nI_1]⟩)
    n 300 mi 0 (by omega) (by omega) ⟨fun k h => absurd h (by omega), fun x _ => rfl⟩
theorem s_cpb (ml ms : Nat → Int32) (mi : Nat → Int64) (f i t j n : Nat) (ha : 24 * f + i + n ≤ 96) (hb : 24 * t + j + n ≤ 96) (hab : 24 * f + i ≤ 24 * t + j) :
    ∃ r, fl_X7_copy_110 300 ml ms mi (nI f) (nI i) (nI t) (nI j) (nI n) (1 : Int32) (0 : Int32) = some r ∧ r.1 = nI n ∧ (∀ k, k < n → r.2 (24 * t + j + k) = mi (24 * f + i + k)) ∧ (∀ x, x < 24 * t + j ∨ 24 * t + j + n ≤ x → r.2 x = mi x) :=
  lp (fun m cur v => fl_X7_copy_110 m ml ms cur (nI f) (nI i) (nI t) (nI j) (nI n) (1 : Int32) (nI v)) n (fun v cur => (∀ k, n - v ≤ k → k < n → cur (24 * t + j + k) = mi (24 * f + i + k)) ∧ (∀ x, x < 24 * t + j + (n - v) ∨ 24 * t + j + n ≤ x → cur x = mi x)) _
    (fun m cur h => ⟨_, by
      show fl_X7_copy_110 (m + 1) ml ms cur (nI f) (nI i) (nI t) (nI j) (nI n) (1 : Int32) (nI n) = some (nI n, cur)
      rw [fl_X7_copy_110, if_pos (Int32.le_refl _)], rfl, fun k hk => h.1 k (by omega) hk, fun x hx => h.2 x (by omega)⟩)
    (fun m cur v hv h => Or.inr ⟨vp_updL cur (24 * t + j + (n - 1 - v)) (cur (24 * f + i + (n - 1 - v))), by
      constructor
      · intro k hk1 hk2
        by_cases e : k = n - 1 - v
        · subst e; rw [uL_eq]; exact h.2 _ (by omega)
        · rw [uL_ne (by omega)]; exact h.1 k (by omega) hk2
      · intro x hx
        rw [uL_ne (by omega)]; exact h.2 x (by omega), by
      show fl_X7_copy_110 (m + 1) ml ms cur (nI f) (nI i) (nI t) (nI j) (nI n) (1 : Int32) (nI v) = fl_X7_copy_110 m ml ms _ (nI f) (nI i) (nI t) (nI j) (nI n) (1 : Int32) (nI (v + 1))
      have e1 : nI n - (1 : Int32) - nI v = nI (n - 1 - v) := by
        have a : nI n - (1 : Int32) = nI (n - 1) := pk_sub (b := 1) (by omega)
        rw [a, pk_sub (by omega)]
      rw [fl_X7_copy_110, if_neg (nI_ge hv (by omega)), if_neg (by decide), e1, m24', m24', nI_add, nI_add, if_neg (nI_in (by omega) (by decide)), if_neg (nI_in (by omega) (by decide)), nI_clamp (n := 24 * f + i + (n - 1 - v)) (by omega), nI_clamp (n := 24 * t + j + (n - 1 - v)) (by omega), nI_1]⟩)
    n 300 mi 0 (by omega) (by omega) ⟨fun k h1 h2 => absurd h2 (by omega), fun x _ => rfl⟩
theorem ko_copy {sl ss : Nat → Int32} {si : Nat → Int64} {ml ms : Nat → Int32} {mi : Nat → Int64} (H : KS sl ss si ml ms mi) (a1 a2 a3 a4 a5 : Int32) :
    ∃ q1 q2, f_X6_copy sl ss si a1 a2 a3 a4 a5 = some q1 ∧ f_X7_copy ml ms mi a1 a2 a3 a4 a5 = some q2 ∧ q1.1 = q2.1 ∧ KS sl ss q1.2 ml ms q2.2 := by
  unfold f_X6_copy f_X7_copy f_X6_isSheet f_X7_isSheet f_X5_carry
  rw [kb_in7, kb_in7]
  by_cases c1 : f_X6_isWithin a1 (0 : Int32) (3 : Int32) = 0
  · rw [if_pos c1, if_pos c1]; exact ⟨_, _, rfl, rfl, rfl, H⟩
  rw [if_neg c1, if_neg c1]
  by_cases c2 : f_X6_isWithin a3 (0 : Int32) (3 : Int32) = 0
  · rw [if_pos c2, if_pos c2]; exact ⟨_, _, rfl, rfl, rfl, H⟩
  rw [if_neg c2, if_neg c2]
  obtain ⟨f, -, hf, rfl⟩ := kb_win (a := 0) (b := 3) (by omega) (by omega) c1
  obtain ⟨t, -, ht, rfl⟩ := kb_win (a := 0) (b := 3) (by omega) (by omega) c2
  have ix : ¬ (nI f < 0 ∨ 4 ≤ (nI f).toNatClampNeg) := nI_in (by omega) (by decide)
  have iy : ¬ (nI t < 0 ∨ 4 ≤ (nI t).toNatClampNeg) := nI_in (by omega) (by decide)
  simp only [if_neg ix, if_neg iy]
  rw [nI_clamp (n := f) (by omega), nI_clamp (n := t) (by omega)]
  obtain ⟨f1, -, zf, hzf, f3, f4, f5⟩ := H f (by omega)
  obtain ⟨t1, -, zt, hzt, t3, t4, t5⟩ := H t (by omega)
  rcases s_lane H (show f < 4 by omega) with ⟨h1, -, h2⟩ | ⟨h1, -, h2⟩
  · rw [if_pos h1, if_pos h2]; exact ⟨_, _, rfl, rfl, rfl, H⟩
  rw [if_neg h1, if_neg h2]
  rcases s_lane H (show t < 4 by omega) with ⟨h3, h4, -⟩ | ⟨h3, h4, -⟩
  · rw [if_pos h3, if_neg h4]; exact ⟨_, _, rfl, rfl, rfl, H⟩
  rw [if_neg h3, if_pos h4, f1, t1, f4, t4]
  by_cases c3 : sl f = sl t
  · rw [if_pos c3, if_pos c3]
    rcases s_ins (show f < 4 by omega) hzf f3 a2 a5 with ⟨k1, k2⟩ | ⟨i, n, rfl, rfl, hin, k1, k2⟩
    · rw [k1, k2]; exact ⟨_, _, rfl, rfl, rfl, H⟩
    rw [k1, k2]
    dsimp only
    have n10 : ¬ (1 : Int32) = 0 := by decide
    rw [if_neg n10, if_neg n10]
    rcases s_ins (show t < 4 by omega) hzt t3 a4 (nI n) with ⟨k3, k4⟩ | ⟨j, n', rfl, en, hjn, k3, k4⟩
    · rw [k3, k4]; exact ⟨_, _, rfl, rfl, rfl, H⟩
    rw [k3, k4]
    dsimp only
    have enn : n = n' := (nI_eq (by omega) (by omega)).mp en
    subst enn
    rw [if_neg n10, if_neg n10, m24, m24, nI_clamp (n := 24 * f + i) (by omega), nI_clamp (n := 24 * t + j) (by omega), nI_clamp (n := n) (by omega), if_neg (by
      have n1 : ¬ nI (24 * f + i) < 0 := nI_pos (by omega)
      have n2 : ¬ nI (24 * t + j) < 0 := nI_pos (by omega)
      have n3 : ¬ nI n < 0 := nI_pos (by omega)
      rintro (h | h | h | h | h)
      · exact n1 h
      · exact n2 h
      · exact n3 h
      · omega
      · omega)]
    have fin : ∀ r : Int32 × (Nat → Int64), r.1 = nI n → (∀ k, k < n → r.2 (24 * t + j + k) = mi (24 * f + i + k)) → (∀ x, x < 24 * t + j ∨ 24 * t + j + n ≤ x → r.2 x = mi x) → ∃ q1 q2, some (nI n, va_cpy si si (24 * f + i) (24 * t + j) n) = some q1 ∧ some r = some q2 ∧ q1.1 = q2.1 ∧ KS sl ss q1.2 ml ms q2.2 := by
      intro r hr1 hr2 hr3
      refine ⟨_, _, rfl, rfl, hr1.symm, ?_⟩
      dsimp only
      intro u hu
      obtain ⟨k1, k2, y, hy, k3, k4, k5⟩ := H u hu
      refine ⟨k1, k2, y, hy, k3, k4, ?_⟩
      intro x hx
      by_cases e : 24 * t + j ≤ 24 * u + x ∧ 24 * u + x < 24 * t + j + n
      · obtain ⟨k, ek⟩ : ∃ k, 24 * u + x = 24 * t + j + k := ⟨24 * u + x - (24 * t + j), by omega⟩
        rw [pk_cpy_in (by omega) (by omega), ek, hr2 k (by omega), show 24 * f + i + (24 * t + j + k - (24 * t + j)) = 24 * f + (i + k) by omega, show 24 * f + i + k = 24 * f + (i + k) by omega]
        exact f5 (i + k) (by omega)
      · rw [pk_cpy_out (by omega), hr3 _ (by omega)]
        exact k5 x hx
    by_cases c4 : nI f = nI t
    · have eft : f = t := (nI_eq (by omega) (by omega)).mp c4
      subst eft
      rw [if_pos rfl]
      by_cases c5 : nI j ≤ nI i
      · rw [if_pos c5]
        have hji := (nI_leI (by omega) (by omega)).mp c5
        obtain ⟨r, e, q1, q2, q3⟩ := s_cpf ml ms mi f i f j n (by omega) (by omega) (by omega)
        rw [e]
        exact fin r q1 q2 q3
      · rw [if_neg c5]
        have hji : ¬ j ≤ i := fun h => c5 (nI_le h (by omega))
        obtain ⟨r, e, q1, q2, q3⟩ := s_cpb ml ms mi f i f j n (by omega) (by omega) (by omega)
        rw [e]
        exact fin r q1 q2 q3
    · rw [if_neg c4]
      have hft : f ≠ t := fun h => c4 (by rw [h])
      obtain ⟨r, e, q1, q2, q3⟩ := s_cpf ml ms mi f i t j n (by omega) (by omega) (by omega)
      rw [e]
      exact fin r q1 q2 q3
  · rw [if_neg c3, if_neg c3]; exact ⟨_, _, rfl, rfl, rfl, H⟩
