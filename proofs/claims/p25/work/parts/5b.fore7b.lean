/-! 5b: ahead, game, cuts, weather, rotten: that all ends (reference and class) -/
def pcn (u : Nat) : Nat → Nat
  | 0 => 0
  | k + 1 => pcn u k + (if u.testBit k then 1 else 0)
theorem pc_sd : ∀ u, u < 256 → ∀ c, c < 8 → u.testBit c = true → pcn (sd u (2 ^ c)) 8 + 1 = pcn u 8 := by decide +kernel
theorem pc_le : ∀ u, u < 256 → pcn u 8 ≤ 8 := by decide +kernel
theorem sd_sub {u x c : Nat} (h : sd u x = 0) : sd (sd u (2 ^ c)) x = 0 := by
  apply Nat.eq_of_testBit_eq
  intro i
  have h1 : (sd u x).testBit i = false := by rw [h, Nat.zero_testBit]
  unfold sd at h1 ⊢
  rw [Nat.testBit_and] at h1
  rw [Nat.testBit_and, Nat.testBit_and, Nat.zero_testBit]
  cases hu : u.testBit i
  · rfl
  · rw [hu, Bool.true_and] at h1
    rw [h1, Bool.and_false]
theorem sd_self {x : Nat} (h : x < 256) : sd x x = 0 := by
  have hh : ∀ x, x < 256 → sd x x = 0 := by decide +kernel
  exact hh x h
def LW (x s : Nat) (ws : Nat → Int32) : Prop := ∀ u, u < s → sd u x = 0 → ∃ v, 1 ≤ v ∧ v ≤ 8 ^ pcn u 8 ∧ ws u = nI v
theorem p_lay7 {n : Nat} {kd hd bd pt w : Nat → Int32} (hC : KC n kd hd bd pt) (hW : KW n kd hd bd pt w) {x : Nat} (hx : x < 2 ^ n) (h2 : w 2 = nI x) (ways : Nat → Int32) : ∃ r, f_X7_layWays w ways (-1 : Int32) (0 : Int32) = some r ∧ LW x (x + 1) r := by
  have hn := hC.1
  have hx8 : x < 256 := Nat.lt_of_lt_of_le hx (p8 hn)
  have outer : ∀ m fuel s (ws : Nat → Int32), s + m = x + 1 → 1 ≤ s → m < fuel → LW x s ws → ∃ r, fl_X7_layWays_9 fuel w ws (-1 : Int32) (0 : Int32) (nI s) = some r ∧ LW x (x + 1) r := by
    intro m
    induction m with
    | zero =>
      intro fuel s ws hs hs1 hfu hL
      obtain ⟨g, rfl⟩ : ∃ g, fuel = g + 1 := ⟨fuel - 1, by omega⟩
      have e : s = x + 1 := by omega
      subst e
      rw [fl_X7_layWays_9, h2, if_pos (nI_lt (by omega) (by omega))]
      exact ⟨_, rfl, hL⟩
    | succ m ih =>
      intro fuel s ws hs hs1 hfu hL
      obtain ⟨g, rfl⟩ : ∃ g, fuel = g + 1 := ⟨fuel - 1, by omega⟩
      have hs8 : s < 256 := by omega
      have hsn : s < 2 ^ n := by omega
      have ix : ¬ (nI s < 0 ∨ 256 ≤ (nI s).toNatClampNeg) := nI_in hs8 (by decide)
      have cl : (nI s).toNatClampNeg = s := nI_clamp (by omega)
      have ih' : ∀ (ws : Nat → Int32), LW x (s + 1) ws → ∃ r, fl_X7_layWays_9 g w ws (-1 : Int32) (0 : Int32) (nI s + 1) = some r ∧ LW x (x + 1) r := by
        intro ws hL
        rw [nI_1]
        exact ih g (s + 1) ws (by omega) (by omega) (by omega) hL
      rw [fl_X7_layWays_9, h2, if_neg (nI_nlt (by omega) (by omega)), if_neg ix, kb_dif s hs8 x hx8, cl]
      by_cases hsub : sd s x = 0
      · rw [if_pos (show nI (sd s x) = 0 by rw [hsub]; rfl)]
        obtain ⟨c0, hc0, hb0, hf0, -⟩ := least_free hC hsn (show s ≠ 0 by omega)
        have hp8 := pc_le s hs8
        have hpc0 := pc_sd s hs8 c0 (by omega) hb0
        obtain ⟨q, hq⟩ : ∃ q, pcn s 8 = q + 1 := ⟨pcn s 8 - 1, by omega⟩
        have hpow : 8 ^ q ≤ 8 ^ 7 := Nat.pow_le_pow_right (by omega) (by omega)
        have hpe : 8 ^ (q + 1) = 8 ^ q * 8 := Nat.pow_succ ..
        refine lp (fun m u b => fl_X7_layWays_42 (fl_X7_layWays_9 g) m w u (-1 : Int32) (0 : Int32) (nI s) (nI b)) n (fun b u => (∀ y, y < s → u y = ws y) ∧ ∃ V, u s = nI V ∧ V ≤ b * 8 ^ q ∧ (c0 < b → 1 ≤ V)) _ ?_ ?_ n 300 (upd ws s (0 : Int32)) 0 (by omega) (by omega) ⟨fun y hy => upd_ne (by omega), 0, upd_eq, by omega, fun h => absurd h (by omega)⟩
        · intro m u ⟨hu1, V, hV, hV1, hV2⟩
          show ∃ r, fl_X7_layWays_42 (fl_X7_layWays_9 g) (m + 1) w u (-1 : Int32) (0 : Int32) (nI s) (nI n) = some r ∧ _
          rw [fl_X7_layWays_42, hW.1, if_pos (Int32.le_refl _)]
          refine ih' u ?_
          intro y hy hyx
          by_cases e : y = s
          · subst e
            have hm : n * 8 ^ q ≤ 8 * 8 ^ q := Nat.mul_le_mul_right _ hn
            exact ⟨V, hV2 hc0, by rw [hq, hpe]; omega, hV⟩
          · rw [hu1 y (by omega)]
            exact hL y (by omega) hyx
        · intro m u b hb ⟨hu1, V, hV, hV1, hV2⟩
          right
          show ∃ s', ((∀ y, y < s → s' y = ws y) ∧ ∃ V, s' s = nI V ∧ V ≤ (b + 1) * 8 ^ q ∧ (c0 < b + 1 → 1 ≤ V)) ∧ fl_X7_layWays_42 (fl_X7_layWays_9 g) (m + 1) w u (-1 : Int32) (0 : Int32) (nI s) (nI b) = fl_X7_layWays_42 (fl_X7_layWays_9 g) m w s' (-1 : Int32) (0 : Int32) (nI s) (nI (b + 1))
          have hl : sd s (2 ^ b) < 256 := sd_lt hs8
          have iy : ¬ (nI (sd s (2 ^ b)) < 0 ∨ 256 ≤ (nI (sd s (2 ^ b))).toNatClampNeg) := nI_in hl (by decide)
          have hmul : (b + 1) * 8 ^ q = b * 8 ^ q + 8 ^ q := Nat.succ_mul ..
          have hne : ¬ nI b = (-1 : Int32) := by
            have hh : ∀ b, b < 8 → ¬ nI b = (-1 : Int32) := by decide
            exact hh b (by omega)
          rw [fl_X7_layWays_42, hW.1, if_neg (nI_ge hb (by omega)), s_isFree w hs8 (by omega), pfree_w hW hb, sd2 hs8 (by omega), nI_1]
          simp only [if_neg ix, if_neg iy, if_neg hne]
          rw [cl, nI_clamp (n := sd s (2 ^ b)) (by omega), hV]
          cases hf : pfree bd s b
          · rw [if_pos (show (if (false = true) then (1 : Int32) else 0) = 0 from rfl)]
            refine ⟨upd u s (nI V + 0), ⟨fun y hy => (upd_ne (by omega)).trans (hu1 y hy), V, upd_eq.trans (Int32.add_zero _), by omega, ?_⟩, rfl⟩
            intro hc
            by_cases e : c0 = b
            · subst e
              rw [hf0] at hf
              exact absurd hf (by decide)
            · exact hV2 (by omega)
          · have hbit : s.testBit b = true := by
              unfold pfree at hf
              rw [Bool.and_eq_true] at hf
              exact hf.1
            rw [if_pos rfl, if_neg (by decide)]
            have hlt := sd_bit_lt hbit (show b < 8 by omega) hs8
            obtain ⟨v, hv1, hv2, hv3⟩ := hL (sd s (2 ^ b)) hlt (sd_sub hsub)
            have hpb := pc_sd s hs8 b (by omega) hbit
            have hpq : pcn (sd s (2 ^ b)) 8 = q := by omega
            rw [hpq] at hv2
            refine ⟨upd u s (nI (V + v)), ⟨fun y hy => (upd_ne (by omega)).trans (hu1 y hy), V + v, upd_eq, by omega, fun _ => by omega⟩, ?_⟩
            rw [hu1 _ hlt, hv3, nI_add]
      · have hne : ¬ nI (sd s x) = 0 := nI_ne0 (by omega) (by have := sd_lt (b := x) hs8; omega)
        rw [if_neg hne]
        refine ih' _ ?_
        intro y hy hyx
        by_cases e : y = s
        · subst e
          exact absurd hyx hsub
        · rw [upd_ne e]
          exact hL y (by omega) hyx
  refine outer x 300 1 (upd ways 0 (1 : Int32)) (by omega) (by omega) (by omega) ?_
  intro u hu _
  have e : u = 0 := by omega
  subst e
  exact ⟨1, by omega, Nat.one_le_pow _ _ (by omega), upd_eq⟩
/-- the reference's fraction ends -/
theorem t_euc (v0 v1 v2 : Int32) : ∀ k fuel a d, 2 * k + 1 ≤ fuel → k ≤ 31 → 1 ≤ a → a < 2 ^ 31 → d < 2 ^ k → d < 2 ^ 31 → ∃ r, fl_X7_partOf_5 fuel v0 v1 v2 (nI a) (nI d) = some r := by
  have stop : ∀ fuel a, 1 ≤ fuel → 1 ≤ a → a < 2 ^ 31 → ∃ r, fl_X7_partOf_5 fuel v0 v1 v2 (nI a) (nI 0) = some r := by
    intro fuel a hf ha ha2
    obtain ⟨g, rfl⟩ : ∃ g, fuel = g + 1 := ⟨fuel - 1, by omega⟩
    have hz : ¬ nI a = 0 := nI_ne0 (by omega) ha2
    rw [fl_X7_partOf_5, if_pos (by decide), if_neg hz, if_neg hz]
    split
    · exact ⟨_, rfl⟩
    · exact ⟨_, rfl⟩
  intro k
  induction k with
  | zero =>
    intro fuel a d hf _ ha ha2 hd _
    have e : d = 0 := by
      have : (2 : Nat) ^ 0 = 1 := rfl
      omega
    subst e
    exact stop fuel a (by omega) ha ha2
  | succ k ih =>
    intro fuel a d hf hk ha ha2 hd hd2
    by_cases h0 : d = 0
    · subst h0
      exact stop fuel a (by omega) ha ha2
    obtain ⟨g, rfl⟩ : ∃ g, fuel = g + 1 := ⟨fuel - 1, by omega⟩
    rw [fl_X7_partOf_5, if_neg (nI_nle (by omega) hd2), if_neg (nI_ne0 (by omega) hd2), pk_rem ha2 (by omega) hd2]
    have hr : a % d < d := Nat.mod_lt _ (by omega)
    by_cases hr0 : a % d = 0
    · rw [hr0]
      exact stop g d (by omega) (by omega) hd2
    obtain ⟨g, rfl⟩ : ∃ g', g = g' + 1 := ⟨g - 1, by omega⟩
    rw [fl_X7_partOf_5, if_neg (nI_nle (by omega) (by omega)), if_neg (nI_ne0 (by omega) (by omega)), pk_rem hd2 (by omega) (by omega)]
    have h1 : d % (a % d) < a % d := Nat.mod_lt _ (by omega)
    have h3 := Nat.div_add_mod d (a % d)
    have h4 : 1 ≤ d / (a % d) := Nat.div_pos (by omega) (by omega)
    have h5 : a % d ≤ a % d * (d / (a % d)) := Nat.le_mul_of_pos_right _ h4
    have p4 : 2 ^ (k + 1) = 2 ^ k * 2 := Nat.pow_succ ..
    exact ih g (a % d) (d % (a % d)) (by omega) (by omega) (by omega) (by omega) (by omega) (by omega)
theorem t_part (up what : Int32) {d : Nat} (hd : 1 ≤ d) (hd2 : d < 2 ^ 31) : ∃ r, f_X7_partOf up (nI d) what = some r := by
  unfold f_X7_partOf
  have hz : ¬ nI d = 0 := nI_ne0 (by omega) hd2
  rw [fl_X7_partOf_5, if_neg (nI_nle (by omega) hd2), if_neg hz]
  by_cases hy : up - up / nI d * nI d ≤ 0
  · rw [fl_X7_partOf_5, if_pos hy, if_neg hz, if_neg hz]
    split
    · exact ⟨_, rfl⟩
    · exact ⟨_, rfl⟩
  · have hn : ¬ up - up / nI d * nI d < 0 := fun h => hy (Int32.le_of_lt h)
    obtain ⟨e, he, ee⟩ := nI_of hn
    rw [ee]
    exact t_euc _ _ _ 31 299 d e (by omega) (by omega) hd hd2 he he
theorem t_ahead7 {kd hd bd pt pn w : Nat → Int32} {sz ps t wars wet day drawn : Int32} (H : KR kd hd bd pt sz pn ps t wars wet day drawn w) (ways : Nat → Int32) (a1 a2 a3 : Int32) : ∃ q, f_X7_ahead w ways a1 a2 a3 = some q := by
  obtain ⟨n, k, rfl, rfl, hC, hW, hG, hH, hP⟩ := H
  have hn := hC.1
  obtain ⟨⟨x, hx, rfl⟩, gw, gd, gr⟩ := hG
  have h2 : w 2 = nI x := hH.2.2.1
  have hx8 : x < 256 := Nat.lt_of_lt_of_le hx (p8 hn)
  unfold f_X7_ahead
  obtain ⟨r, e, hL⟩ := p_lay7 hC hW hx h2 ways
  obtain ⟨r2, e2⟩ := t_lay7 hn hW hx h2 r a2 a1
  rw [e]
  dsimp only
  rw [e2, h2]
  dsimp only
  have ix : ¬ (nI x < 0 ∨ 256 ≤ (nI x).toNatClampNeg) := nI_in hx8 (by decide)
  obtain ⟨v, hv1, hv2, hv3⟩ := hL x (by omega) (sd_self hx8)
  have hp := pc_le x hx8
  have hpow : 8 ^ pcn x 8 ≤ 8 ^ 8 := Nat.pow_le_pow_right (by omega) hp
  obtain ⟨r3, e3⟩ := t_part (r2 x) a3 (d := v) hv1 (by omega)
  rw [if_neg ix, if_neg ix, nI_clamp (by omega), hv3, e3]
  dsimp only
  repeat' split
  all_goals exact ⟨_, rfl⟩
theorem t_game7 {kd hd bd pt pn w : Nat → Int32} {sz ps t wars wet day drawn : Int32} (H : KR kd hd bd pt sz pn ps t wars wet day drawn w) (wins : Nat → Int32) (a1 a2 : Int32) : ∃ q, f_X7_game w wins a1 a2 = some q := by
  obtain ⟨n, k, rfl, rfl, hC, hW, hG, hH, hP⟩ := H
  have hn := hC.1
  obtain ⟨⟨x, hx, rfl⟩, gw, gd, gr⟩ := hG
  have h2 : w 2 = nI x := hH.2.2.1
  have hx8 : x < 256 := Nat.lt_of_lt_of_le hx (p8 hn)
  have outer : ∀ m fuel s (ws : Nat → Int32) (v3 : Int32), s + m = x + 1 → m < fuel → ∃ r, fl_X7_game_42 fuel w ws a2 v3 (nI s) = some r := by
    intro m
    induction m with
    | zero =>
      intro fuel s ws v3 hs hfu
      obtain ⟨g, rfl⟩ : ∃ g, fuel = g + 1 := ⟨fuel - 1, by omega⟩
      rw [fl_X7_game_42, h2, if_pos (nI_lt (by omega) (by omega)), if_neg (nI_in hx8 (by decide))]
      repeat' split
      all_goals exact ⟨_, rfl⟩
    | succ m ih =>
      intro fuel s ws v3 hs hfu
      obtain ⟨g, rfl⟩ : ∃ g, fuel = g + 1 := ⟨fuel - 1, by omega⟩
      have hs8 : s < 256 := by omega
      have ix : ¬ (nI s < 0 ∨ 256 ≤ (nI s).toNatClampNeg) := nI_in hs8 (by decide)
      have ih' : ∀ (ws : Nat → Int32) (v3 : Int32), ∃ r, fl_X7_game_42 g w ws a2 v3 (nI s + 1) = some r := by
        intro ws v3
        rw [nI_1]
        exact ih g (s + 1) ws v3 (by omega) (by omega)
      have inner : ∀ k fuel (ws : Nat → Int32) (v3 : Int32), k ≤ n → k < fuel → ∃ r, fl_X7_game_74 (fl_X7_game_42 g) fuel w ws a2 v3 (nI s) (nI k + (-1 : Int32)) = some r := by
        intro k
        induction k with
        | zero =>
          intro fuel ws v3 _ hfu
          obtain ⟨f, rfl⟩ : ∃ f, fuel = f + 1 := ⟨fuel - 1, by omega⟩
          rw [fl_X7_game_74, if_pos (by decide)]
          exact ih' _ _
        | succ k ihk =>
          intro fuel ws v3 hk hfu
          obtain ⟨f, rfl⟩ : ∃ f, fuel = f + 1 := ⟨fuel - 1, by omega⟩
          have hl : sd s (2 ^ k) < 256 := sd_lt hs8
          have iy : ¬ (nI (sd s (2 ^ k)) < 0 ∨ 256 ≤ (nI (sd s (2 ^ k))).toNatClampNeg) := nI_in hl (by decide)
          have r1 : ∀ (ws : Nat → Int32) (v3 : Int32), ∃ r, fl_X7_game_74 (fl_X7_game_42 g) f w ws a2 v3 (nI s) (nI k + (-1 : Int32)) = some r := fun ws v3 => ihk f ws v3 (by omega) (by omega)
          rw [fl_X7_game_74, pk_m1, if_neg (nI_pos (by omega)), s_isFree w hs8 (by omega), sd2 hs8 (by omega)]
          simp only [if_neg ix, if_neg iy]
          repeat' split
          all_goals first | exact r1 _ _ | exact ih' _ _
      rw [fl_X7_game_42, h2, if_neg (nI_nlt (by omega) (by omega)), if_neg ix, hW.1, Int32.sub_eq_add_neg]
      exact inner n 300 _ _ (by omega) (by omega)
  unfold f_X7_game
  split
  · exact ⟨_, rfl⟩
  split
  · exact ⟨_, rfl⟩
  split
  · exact outer x 300 1 _ _ (by omega) (by omega)
  · exact outer x 300 1 _ _ (by omega) (by omega)
theorem t_bits (v : Int32) : ∃ r, f_X7_bits v = some r := by
  refine lt (fun m s b => fl_X7_bits_4 m v s (nI b)) 8 ?_ ?_ 300 0 0 (by omega) (by omega)
  · intro m s
    refine ⟨s, ?_⟩
    show fl_X7_bits_4 (m + 1) v s (nI 8) = some s
    rw [fl_X7_bits_4, if_pos (by decide)]
  · intro m s b hb
    right
    show ∃ s', fl_X7_bits_4 (m + 1) v s (nI b) = fl_X7_bits_4 m v s' (nI (b + 1))
    rw [fl_X7_bits_4, if_neg (kb8 hb), nI_1]
    exact ⟨_, rfl⟩
/-- a pull at what is left without a set -/
theorem t_less {n : Nat} {kd hd bd pt w : Nat → Int32} (hC : KC n kd hd bd pt) (hW : KW n kd hd bd pt w) {x : Nat} (hx : x < 2 ^ n) (h2 : w 2 = nI x) (tr : Nat → Int32) {s : Nat} (hs : s < 256) (f : Int32) : ∃ u b u', f_X7_begin w tr = some u ∧ f_X7_pullIn_1 (upd u 2 ((u 2) &&& (nI s ^^^ (-1 : Int32)))) f = some (nI b, u') ∧ b < 256 ∧ TT n kd hd bd pt u' := by
  have hn := hC.1
  have hx8 : x < 256 := Nat.lt_of_lt_of_le hx (p8 hn)
  obtain ⟨u, e, T, hu⟩ := t_begin hn hW hx h2 tr
  have T' : TT n kd hd bd pt (upd u 2 ((u 2) &&& (nI s ^^^ (-1 : Int32)))) := by
    refine ⟨KW_of hn T.1 (fun i h1 h2 => upd_ne (by omega)), sd x s, sd_lt hx, ?_⟩
    rw [upd_eq, hu 2 (by omega), h2, kb_dif x hx8 s hs]
  obtain ⟨b, u', e', hb, T''⟩ := t_pull1 hC T' f
  exact ⟨u, b, u', e, e', hb, T''⟩
theorem t_cuts7 {kd hd bd pt pn w : Nat → Int32} {sz ps t wars wet day drawn : Int32} (H : KR kd hd bd pt sz pn ps t wars wet day drawn w) (tr : Nat → Int32) (a1 a2 a3 : Int32) : ∃ q, f_X7_cuts w tr a1 a2 a3 = some q := by
  obtain ⟨n, k, rfl, rfl, hC, hW, hG, hH, hP⟩ := H
  have hn := hC.1
  obtain ⟨⟨x, hx, rfl⟩, gw, gd, gr⟩ := hG
  have h2 : w 2 = nI x := hH.2.2.1
  have hx8 : x < 256 := Nat.lt_of_lt_of_le hx (p8 hn)
  unfold f_X7_cuts
  split
  · exact ⟨_, rfl⟩
  split
  · exact ⟨_, rfl⟩
  split
  · exact ⟨_, rfl⟩
  refine lt (fun m (s : (Nat → Int32) × Int32) v => fl_X7_cuts_36 m w s.1 a1 a2 a3 s.2 (nI v)) (x + 1) ?_ ?_ 300 (tr, (-4 : Int32)) 0 (by omega) (by omega)
  · intro m s
    show ∃ r, fl_X7_cuts_36 (m + 1) w s.1 a1 a2 a3 s.2 (nI (x + 1)) = some r
    obtain ⟨r, e⟩ := t_bits s.2
    rw [fl_X7_cuts_36, h2, if_pos (nI_lt (by omega) (by omega)), e]
    dsimp only
    repeat' split
    all_goals exact ⟨_, rfl⟩
  · intro m s v hv
    right
    show ∃ s' : (Nat → Int32) × Int32, fl_X7_cuts_36 (m + 1) w s.1 a1 a2 a3 s.2 (nI v) = fl_X7_cuts_36 m w s'.1 a1 a2 a3 s'.2 (nI (v + 1))
    obtain ⟨r1, e1⟩ := t_bits s.2
    obtain ⟨r2, e2⟩ := t_bits (nI v)
    obtain ⟨u, b, u', e3, e4, -, -⟩ := t_less hC hW hx h2 s.1 (s := v) (by omega) a2
    rw [fl_X7_cuts_36, h2, if_neg (nI_nlt (by omega) (by omega)), e1, e2, e3, nI_1]
    dsimp only
    rw [e4]
    dsimp only
    repeat' split
    all_goals first | exact ⟨(_, _), rfl⟩
theorem ko_weather {kd hd bd pt pn w : Nat → Int32} {sz ps t wars wet day drawn : Int32} (H : KR kd hd bd pt sz pn ps t wars wet day drawn w) (tr : Nat → Int32) (a1 a2 : Int32) : ∃ q1 q2, f_X6_weather kd hd sz wet day a1 a2 = some q1 ∧ f_X7_weather w tr a1 a2 = some q2 ∧ q1 = q2.1 := by
  obtain ⟨n, k, rfl, rfl, hC, hW, hG, hH, hP⟩ := H
  have hn := hC.1
  unfold f_X6_weather f_X7_weather f_X6_isForce
  rw [kb_in7]
  rcases s_isCl hn hW.1 a1 with ⟨y1, y2⟩ | ⟨c, hc, rfl, y1, y2⟩
  · rw [if_pos y1, if_pos y2]; exact ⟨_, _, rfl, rfl, rfl⟩
  rw [if_neg y1, if_neg y2]
  by_cases c1 : f_X6_isWithin a2 (0 : Int32) (99 : Int32) = 0
  · rw [if_pos c1, if_pos c1]; exact ⟨_, _, rfl, rfl, rfl⟩
  rw [if_neg c1, if_neg c1]
  obtain ⟨d, hd', e⟩ := hG.2.2.1
  subst e
  obtain ⟨u, eu, hu⟩ := s_begin w tr
  rw [eu]
  dsimp only
  obtain ⟨w6, w14, w22, w30⟩ := hW.2 c hc
  obtain ⟨⟨kk, hk, ek⟩, -⟩ := hC.2 c hc
  have go : ∀ m fuel v (u : Nat → Int32), v + m = 61 → m < fuel → u 0 = nI d + nI v → u 3 = wet → u (6 + c) = kd c → u (14 + c) = hd c → ∃ q1 q2, fl_X6_weather_19 fuel kd hd (nI n) wet (nI d) (nI c) a2 (nI v) = some q1 ∧ fl_X7_weather_26 fuel w u (nI c) a2 (nI v) = some q2 ∧ q1 = q2.1 := by
    intro m
    induction m with
    | zero =>
      intro fuel v u hv hf _ _ _ _
      obtain ⟨g, rfl⟩ : ∃ g, fuel = g + 1 := ⟨fuel - 1, by omega⟩
      have e : v = 61 := by omega
      subst e
      rw [fl_X6_weather_19, fl_X7_weather_26, if_pos (by decide), if_pos (by decide)]
      exact ⟨_, _, rfl, rfl, rfl⟩
    | succ m ih =>
      intro fuel v u hv hf u0 u3 u6 u14
      obtain ⟨g, rfl⟩ : ∃ g, fuel = g + 1 := ⟨fuel - 1, by omega⟩
      have l : ¬ (60 : Int32) < nI v := nI_nlt (a := 60) (by omega) (by omega)
      have ix : ¬ (nI c < 0 ∨ 8 ≤ (nI c).toNatClampNeg) := nI_in (by omega) (by decide)
      rw [fl_X6_weather_19, fl_X7_weather_26, if_neg l, if_neg l, e_firm1, s_firm7 u (by omega), u6, u14]
      unfold f_X4_firmOnDay
      rw [if_neg ix, if_neg ix, nI_clamp (by omega), ek, s_firmBy u hk, u3, u0]
      dsimp only
      by_cases hlt : a2 < f_X4_firmBy wet (nI kk) (hd c) (nI d + nI v)
      · rw [if_pos hlt, if_pos hlt, nI_1]
        refine ih g (v + 1) _ (by omega) (by omega) ?_ ?_ ?_ ?_
        · rw [upd_eq, nI_add, nI_1, nI_add]
          congr 1
        · rw [upd_ne (by omega)]; exact u3
        · rw [upd_ne (by omega)]; exact u6
        · rw [upd_ne (by omega)]; exact u14
      · rw [if_neg hlt, if_neg hlt]
        exact ⟨_, _, rfl, rfl, rfl⟩
  refine go 61 300 0 u (by omega) (by omega) ?_ ?_ ?_ ?_
  · rw [hu 0 (by omega), show w 0 = nI d from hH.1, nI_add]
    rfl
  · rw [hu 3 (by omega)]; exact hH.2.2.2.1
  · rw [hu _ (by omega)]; exact w6
  · rw [hu _ (by omega)]; exact w14
theorem t_lowest (p o : Int32) : ∃ r, f_X6_lowestPartOf p o = some r := by
  refine lt (fun m (s : Int32 × Int32) v => fl_X6_lowestPartOf_7 m s.1 s.2 (nI v)) 8 ?_ ?_ 300 (p, o) 0 (by omega) (by omega)
  · intro m s
    refine ⟨s.1, ?_⟩
    show fl_X6_lowestPartOf_7 (m + 1) s.1 s.2 (nI 8) = some s.1
    rw [fl_X6_lowestPartOf_7, if_pos (by decide)]
  · intro m s v hv
    right
    show ∃ s' : Int32 × Int32, fl_X6_lowestPartOf_7 (m + 1) s.1 s.2 (nI v) = fl_X6_lowestPartOf_7 m s'.1 s'.2 (nI (v + 1))
    rw [fl_X6_lowestPartOf_7, if_neg (kb8 hv), nI_1]
    repeat' split
    all_goals exact ⟨(_, _), rfl⟩
theorem bc8 : ∀ a, a < 256 → ∃ j, j < 9 ∧ f_J6_bitCount (nI a) = nI j := by decide +kernel
theorem t_power (b : Int32) {j : Nat} (hj : j < 9) : ∃ r, f_X6_powerOf b (nI j) = some r := by
  refine lt (fun m s v => fl_X6_powerOf_4 m b (nI j) s (nI v)) j ?_ ?_ 300 1 0 (by omega) (by omega)
  · intro m s
    refine ⟨s, ?_⟩
    show fl_X6_powerOf_4 (m + 1) b (nI j) s (nI j) = some s
    rw [fl_X6_powerOf_4, if_pos (Int32.le_refl _)]
  · intro m s v hv
    right
    show ∃ s', fl_X6_powerOf_4 (m + 1) b (nI j) s (nI v) = fl_X6_powerOf_4 m b (nI j) s' (nI (v + 1))
    rw [fl_X6_powerOf_4, if_neg (nI_ge hv (by omega)), nI_1]
    exact ⟨_, rfl⟩
theorem t_rotten6 {kd hd bd pt pn w : Nat → Int32} {sz ps t wars wet day drawn : Int32} (H : KR kd hd bd pt sz pn ps t wars wet day drawn w) (a1 a2 a3 a4 : Int32) : ∃ q, f_X6_rotten kd hd bd sz t wet day a1 a2 a3 a4 = some q := by
  obtain ⟨n, k, rfl, rfl, hC, hW, hG, hH, hP⟩ := H
  have hn := hC.1
  obtain ⟨⟨x, hx, rfl⟩, gw, gd, gr⟩ := hG
  unfold f_X6_rotten
  rcases s_isCl hn hW.1 a1 with ⟨y1, y2⟩ | ⟨c, hc, rfl, y1, y2⟩
  · rw [if_pos y1]; exact ⟨_, rfl⟩
  have ix : ¬ (nI c < 0 ∨ 8 ≤ (nI c).toNatClampNeg) := nI_in (by omega) (by decide)
  obtain ⟨e1, e2, -⟩ := vb_eq hC hx hc
  obtain ⟨j, hj, ej⟩ := bc8 (vb bd x c) (Nat.lt_of_lt_of_le e2 (p8 hn))
  obtain ⟨r4, e4⟩ := t_power 10 hj
  obtain ⟨r5, e5⟩ := t_power a3 hj
  obtain ⟨r1, f1⟩ := t_lowest a3 10
  obtain ⟨r2, f2⟩ := t_lowest 10 a3
  obtain ⟨r6, f6⟩ := t_lowest ((a3 * r4) + (((10 : Int32) - a3) * r5)) ((10 : Int32) * r4)
  obtain ⟨r7, f7⟩ := t_lowest ((10 : Int32) * r4) ((a3 * r4) + (((10 : Int32) - a3) * r5))
  rw [if_neg y1, s_firm6 kd hd wet day (by omega), if_neg ix, nI_clamp (by omega), e1, ej, e4, e5, f1, f2]
  dsimp only
  rw [f6, f7]
  dsimp only
  repeat' split
  all_goals exact ⟨_, rfl⟩
theorem t_rotten7 {kd hd bd pt pn w : Nat → Int32} {sz ps t wars wet day drawn : Int32} (H : KR kd hd bd pt sz pn ps t wars wet day drawn w) (tr : Nat → Int32) (a1 a2 a3 a4 : Int32) : ∃ q, f_X7_rotten w tr a1 a2 a3 a4 = some q := by
  obtain ⟨n, k, rfl, rfl, hC, hW, hG, hH, hP⟩ := H
  have hn := hC.1
  obtain ⟨⟨x, hx, rfl⟩, gw, gd, gr⟩ := hG
  have h2 : w 2 = nI x := hH.2.2.1
  have hx8 : x < 256 := Nat.lt_of_lt_of_le hx (p8 hn)
  unfold f_X7_rotten
  split
  · exact ⟨_, rfl⟩
  split
  · exact ⟨_, rfl⟩
  split
  · exact ⟨_, rfl⟩
  split
  · exact ⟨_, rfl⟩
  obtain ⟨j, hj, ej⟩ := bc8 x hx8
  have outer : ∀ (D : Nat), 1 ≤ D → D < 2 ^ 31 → ∀ m fuel s (tr : Nat → Int32) (v5 : Int32), s + m = x + 1 → m < fuel → ∃ q, fl_X7_rotten_79 fuel w tr a1 a2 a3 a4 v5 (nI D) (nI s) = some q := by
    intro D hD hD2 m
    induction m with
    | zero =>
      intro fuel s tr v5 hs hfu
      obtain ⟨g, rfl⟩ : ∃ g, fuel = g + 1 := ⟨fuel - 1, by omega⟩
      obtain ⟨r, e⟩ := t_part v5 a4 hD hD2
      rw [fl_X7_rotten_79, h2, if_pos (nI_lt (by omega) (by omega)), e]
      exact ⟨_, rfl⟩
    | succ m ih =>
      intro fuel s tr v5 hs hfu
      obtain ⟨g, rfl⟩ : ∃ g, fuel = g + 1 := ⟨fuel - 1, by omega⟩
      have hs8 : s < 256 := by omega
      have ih' : ∀ (tr : Nat → Int32) (v5 : Int32), ∃ q, fl_X7_rotten_79 g w tr a1 a2 a3 a4 v5 (nI D) (nI s + 1) = some q := by
        intro tr v5
        rw [nI_1]
        exact ih g (s + 1) tr v5 (by omega) (by omega)
      rw [fl_X7_rotten_79, h2, if_neg (nI_nlt (by omega) (by omega))]
      split
      · refine lt (fun m u b => fl_X7_rotten_110 (fl_X7_rotten_79 g) m w tr a1 a2 a3 a4 v5 (nI D) (nI s) u (nI b)) n ?_ ?_ 300 1 0 (by omega) (by omega)
        · intro m u
          show ∃ r, fl_X7_rotten_110 (fl_X7_rotten_79 g) (m + 1) w tr a1 a2 a3 a4 v5 (nI D) (nI s) u (nI n) = some r
          obtain ⟨u1, b, u', e3, e4, -, -⟩ := t_less hC hW hx h2 tr (s := s) hs8 a2
          rw [fl_X7_rotten_110, hW.1, if_pos (Int32.le_refl _), e3]
          dsimp only
          rw [e4]
          dsimp only
          split
          · exact ih' _ _
          · exact ih' _ _
        · intro m u b hb
          right
          show ∃ s', fl_X7_rotten_110 (fl_X7_rotten_79 g) (m + 1) w tr a1 a2 a3 a4 v5 (nI D) (nI s) u (nI b) = fl_X7_rotten_110 (fl_X7_rotten_79 g) m w tr a1 a2 a3 a4 v5 (nI D) (nI s) s' (nI (b + 1))
          rw [fl_X7_rotten_110, hW.1, if_neg (nI_ge hb (by omega)), nI_1]
          repeat' split
          all_goals exact ⟨_, rfl⟩
      · exact ih' _ _
  obtain ⟨r, er, -⟩ := lp (fun m s v => fl_X7_rotten_49 m w tr a1 a2 a3 a4 (0 : Int32) s (nI v)) j (fun v s => s = nI (10 ^ v)) (fun _ => True)
    (fun m s hs => by
      show ∃ r, fl_X7_rotten_49 (m + 1) w tr a1 a2 a3 a4 (0 : Int32) s (nI j) = some r ∧ True
      rw [fl_X7_rotten_49, h2, bcnt x hx8, ej]
      dsimp only
      rw [if_pos (Int32.le_refl _), hs]
      have p1 : 1 ≤ 10 ^ j := Nat.one_le_pow _ _ (by omega)
      have p2 : 10 ^ j ≤ 10 ^ 8 := Nat.pow_le_pow_right (by omega) (by omega)
      obtain ⟨q, eq⟩ := outer (10 ^ j) p1 (by omega) (x + 1) 300 0 tr 0 (by omega) (by omega)
      exact ⟨q, eq, True.intro⟩)
    (fun m s v hv hs => by
      right
      refine ⟨s * 10, ?_, ?_⟩
      · rw [hs]
        have e : nI (10 ^ v) * (10 : Int32) = nI (10 ^ v * 10) := pk_mul (10 ^ v) 10
        rw [e]
        rfl
      · show fl_X7_rotten_49 (m + 1) w tr a1 a2 a3 a4 (0 : Int32) s (nI v) = fl_X7_rotten_49 m w tr a1 a2 a3 a4 (0 : Int32) (s * 10) (nI (v + 1))
        rw [fl_X7_rotten_49, h2, bcnt x hx8, ej]
        dsimp only
        rw [if_neg (nI_ge hv (by omega)), nI_1])
    j 300 1 0 (by omega) (by omega) rfl
  exact ⟨r, er⟩
