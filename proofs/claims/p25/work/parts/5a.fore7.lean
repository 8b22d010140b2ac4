/-! 5a: foretold: that all ends (reference); weather, film -/
theorem e_free1 : @f_X7_isFree_1 = @f_X7_isFree := by with_unfolding_all rfl
theorem e_firm1 : @f_X7_firm_1 = @f_X7_firm := by with_unfolding_all rfl
theorem e_fl1 (w : Nat → Int32) (f : Int32) : ∀ (n : Nat) (s c : Int32), fl_X7_fallsIn_1_4 n w f s c = fl_X7_fallsIn_4 n w f s c
  | 0, s, c => by rw [fl_X7_fallsIn_1_4, fl_X7_fallsIn_4]
  | n + 1, s, c => by
    rw [fl_X7_fallsIn_1_4, fl_X7_fallsIn_4, e_free1, e_firm1]
    simp only [e_fl1 w f n]
theorem e_pull1 : @f_X7_pullIn_1 = @f_X7_pullIn := by
  funext w f
  unfold f_X7_pullIn_1 f_X7_pullIn f_X7_fallsIn_1 f_X7_fallsIn
  rw [e_fl1]
def TT (n : Nat) (kd hd bd pt u : Nat → Int32) : Prop := KW n kd hd bd pt u ∧ ∃ a, a < 2 ^ n ∧ u 2 = nI a
theorem s_begin (w tr : Nat → Int32) : ∃ s', f_X7_begin w tr = some s' ∧ ∀ j, j < 79 → s' j = w j := by
  obtain ⟨s', e, h⟩ := lp (fun n cur v => fl_X7_bring_2_3 n w cur (nI 0) (nI 0) (nI 79) (nI v)) 79 (fun v cur => ∀ j, j < v → cur j = w j) (fun cur => ∀ j, j < 79 → cur j = w j)
    (fun n cur h => ⟨cur, by
      show fl_X7_bring_2_3 (n + 1) w cur (nI 0) (nI 0) (nI 79) (nI 79) = some cur
      rw [fl_X7_bring_2_3, if_pos (Int32.le_refl _)], h⟩)
    (fun n cur v hv h => Or.inr ⟨upd cur v (w v), by
      intro j hj
      by_cases e : j = v
      · subst e; exact upd_eq
      · rw [upd_ne e]; exact h j (by omega), by
      show fl_X7_bring_2_3 (n + 1) w cur (nI 0) (nI 0) (nI 79) (nI v) = fl_X7_bring_2_3 n w _ (nI 0) (nI 0) (nI 79) (nI (v + 1))
      rw [fl_X7_bring_2_3, if_neg (nI_ge hv (by omega)), nI_add, Nat.zero_add, if_neg (nI_in (by omega) (by decide)), if_neg (nI_in (by omega) (by decide)), nI_clamp (by omega), nI_1]⟩)
    79 300 tr 0 (by omega) (by omega) (fun j h => absurd h (by omega))
  have e' : f_X7_bring_2 w tr (0 : Int32) (0 : Int32) (79 : Int32) = some s' := e
  refine ⟨s', ?_, h⟩
  unfold f_X7_begin
  rw [e']
theorem t_begin {n : Nat} {kd hd bd pt w : Nat → Int32} (hn : n ≤ 8) (hW : KW n kd hd bd pt w) {x : Nat} (hx : x < 2 ^ n) (h2 : w 2 = nI x) (tr : Nat → Int32) : ∃ u, f_X7_begin w tr = some u ∧ TT n kd hd bd pt u ∧ ∀ j, j < 79 → u j = w j := by
  obtain ⟨u, e, h⟩ := s_begin w tr
  exact ⟨u, e, ⟨KW_of hn hW (fun i h1 h2 => h i (by omega)), x, hx, (h 2 (by omega)).trans h2⟩, h⟩
theorem t_pull1 {n : Nat} {kd hd bd pt u : Nat → Int32} (hC : KC n kd hd bd pt) (T : TT n kd hd bd pt u) (f : Int32) : ∃ b u', f_X7_pullIn_1 u f = some (nI b, u') ∧ b < 256 ∧ TT n kd hd bd pt u' := by
  obtain ⟨hW, a, ha, h2⟩ := T
  rw [e_pull1, s_pullIn hC hW ha h2]
  exact ⟨_, _, rfl, fallN_lt .., KW_of hC.1 hW (fun i h1 h2 => upd_ne (by omega)), _, sd_lt ha, upd_eq⟩
theorem t_pulls7 {kd hd bd pt pn w : Nat → Int32} {sz ps t wars wet day drawn : Int32} (H : KR kd hd bd pt sz pn ps t wars wet day drawn w) (tr : Nat → Int32) (a1 a2 : Int32) : ∃ q, f_X7_pulls w tr a1 a2 = some q := by
  obtain ⟨n, k, rfl, rfl, hC, hW, hG, hH, hP⟩ := H
  have hn := hC.1
  obtain ⟨⟨x, hx, rfl⟩, gw, gd, gr⟩ := hG
  unfold f_X7_pulls
  rw [kb_in7]
  split
  · exact ⟨_, rfl⟩
  split
  · exact ⟨_, rfl⟩
  obtain ⟨u, e, T, -⟩ := t_begin hn hW hx hH.2.2.1 tr
  rw [e]
  dsimp only
  obtain ⟨r, er, -⟩ := lp (fun m s v => fl_X7_pulls_26 m w s a1 a2 (nI v)) 21 (fun _ s => TT n kd hd bd pt s) (fun _ => True)
    (fun m s _ => ⟨_, by
      show fl_X7_pulls_26 (m + 1) w s a1 a2 (nI 21) = some (-4, s)
      rw [fl_X7_pulls_26, if_pos (by decide)], True.intro⟩)
    (fun m s v hv T => by
      show (∃ r, fl_X7_pulls_26 (m + 1) w s a1 a2 (nI v) = some r ∧ True) ∨ ∃ s', TT n kd hd bd pt s' ∧ fl_X7_pulls_26 (m + 1) w s a1 a2 (nI v) = fl_X7_pulls_26 m w s' a1 a2 (nI (v + 1))
      obtain ⟨b, u', e, -, T'⟩ := t_pull1 hC T a2
      have l : ¬ (20 : Int32) < nI v := nI_nlt (a := 20) (by omega) (by omega)
      rw [fl_X7_pulls_26, if_neg l, e, nI_1]
      dsimp only
      split
      · exact Or.inl ⟨_, rfl, True.intro⟩
      · exact Or.inr ⟨u', T', rfl⟩)
    21 300 u 0 (by omega) (by omega) T
  exact ⟨r, er⟩
theorem t_force7 {kd hd bd pt pn w : Nat → Int32} {sz ps t wars wet day drawn : Int32} (H : KR kd hd bd pt sz pn ps t wars wet day drawn w) (tr : Nat → Int32) (a1 a2 : Int32) : ∃ q, f_X7_force w tr a1 a2 = some q := by
  obtain ⟨n, k, rfl, rfl, hC, hW, hG, hH, hP⟩ := H
  have hn := hC.1
  obtain ⟨⟨x, hx, rfl⟩, gw, gd, gr⟩ := hG
  unfold f_X7_force
  rw [kb_in7]
  split
  · exact ⟨_, rfl⟩
  split
  · exact ⟨_, rfl⟩
  rename_i c2
  obtain ⟨j, -, hj, rfl⟩ := kb_win (a := 1) (b := 8) (by omega) (by omega) c2
  have outer : ∀ m fuel f (tr : Nat → Int32), f + m = 100 → m < fuel → ∃ q, fl_X7_force_22 fuel w tr a1 (nI j) (nI f) = some q := by
    intro m
    induction m with
    | zero =>
      intro fuel f tr hf hfu
      obtain ⟨g, rfl⟩ : ∃ g, fuel = g + 1 := ⟨fuel - 1, by omega⟩
      have e : f = 100 := by omega
      subst e
      rw [fl_X7_force_22, if_pos (by decide)]
      exact ⟨_, rfl⟩
    | succ m ih =>
      intro fuel f tr hf hfu
      obtain ⟨g, rfl⟩ : ∃ g, fuel = g + 1 := ⟨fuel - 1, by omega⟩
      obtain ⟨u, e, T, -⟩ := t_begin hn hW hx hH.2.2.1 tr
      have l : ¬ (99 : Int32) < nI f := nI_nlt (a := 99) (by omega) (by omega)
      rw [fl_X7_force_22, if_neg l, e]
      dsimp only
      obtain ⟨r, er, -⟩ := lp (fun m s v => fl_X7_force_35 (fl_X7_force_22 g) m w s a1 (nI j) (nI f) (nI v)) j (fun _ s => TT n kd hd bd pt s) (fun _ => True)
        (fun m s _ => by
          show ∃ r, fl_X7_force_35 (fl_X7_force_22 g) (m + 1) w s a1 (nI j) (nI f) (nI j) = some r ∧ True
          obtain ⟨q, eq⟩ := ih g (f + 1) s (by omega) (by omega)
          rw [fl_X7_force_35, if_pos (Int32.le_refl _), nI_1, eq]
          split
          · exact ⟨_, rfl, True.intro⟩
          · exact ⟨_, rfl, True.intro⟩)
        (fun m s v hv T => by
          right
          show ∃ s', TT n kd hd bd pt s' ∧ fl_X7_force_35 (fl_X7_force_22 g) (m + 1) w s a1 (nI j) (nI f) (nI v) = fl_X7_force_35 (fl_X7_force_22 g) m w s' a1 (nI j) (nI f) (nI (v + 1))
          obtain ⟨b, u', e, -, T'⟩ := t_pull1 hC T (nI f)
          rw [fl_X7_force_35, if_neg (nI_ge hv (by omega)), e, nI_1]
          exact ⟨u', T', rfl⟩)
        j 300 u 0 (by omega) (by omega) T
      exact ⟨r, er⟩
  exact outer 100 300 0 tr (by omega) (by omega)
theorem t_deep7 {kd hd bd pt pn w : Nat → Int32} {sz ps t wars wet day drawn : Int32} (H : KR kd hd bd pt sz pn ps t wars wet day drawn w) (tr : Nat → Int32) : ∃ q, f_X7_deep w tr = some q := by
  obtain ⟨n, k, rfl, rfl, hC, hW, hG, hH, hP⟩ := H
  have hn := hC.1
  have outer : ∀ m fuel c (tr : Nat → Int32) (v : Int32), c + m = n → m < fuel → ∃ q, fl_X7_deep_9 fuel w tr v (nI c) = some q := by
    intro m
    induction m with
    | zero =>
      intro fuel c tr v hc hfu
      obtain ⟨g, rfl⟩ : ∃ g, fuel = g + 1 := ⟨fuel - 1, by omega⟩
      have e : c = n := by omega
      subst e
      rw [fl_X7_deep_9, hW.1, if_pos (Int32.le_refl _)]
      exact ⟨_, rfl⟩
    | succ m ih =>
      intro fuel c tr v hc hfu
      obtain ⟨g, rfl⟩ : ∃ g, fuel = g + 1 := ⟨fuel - 1, by omega⟩
      have ix : ¬ (nI c < 0 ∨ 79 ≤ (nI c).toNatClampNeg) := nI_in (by omega) (by decide)
      have ih' : ∀ (tr : Nat → Int32) (v : Int32), ∃ q, fl_X7_deep_9 g w tr v (nI c + 1) = some q := by
        intro tr v
        rw [nI_1]
        exact ih g (c + 1) tr v (by omega) (by omega)
      have inner : ∀ (tr : Nat → Int32) (v : Int32), ∃ q, fl_X7_deep_39 (fl_X7_deep_9 g) 300 w tr v (nI c) (0 : Int32) = some q := by
        intro tr v
        refine lt (fun m s b => fl_X7_deep_39 (fl_X7_deep_9 g) m w s v (nI c) (nI b)) c ?_ ?_ 300 tr 0 (by omega) (by omega)
        · intro m s
          show ∃ r, fl_X7_deep_39 (fl_X7_deep_9 g) (m + 1) w s v (nI c) (nI c) = some r
          rw [fl_X7_deep_39, if_pos (Int32.le_refl _)]
          simp only [if_neg ix]
          split
          · exact ih' _ _
          · exact ih' _ _
        · intro m s b hb
          right
          show ∃ s', fl_X7_deep_39 (fl_X7_deep_9 g) (m + 1) w s v (nI c) (nI b) = fl_X7_deep_39 (fl_X7_deep_9 g) m w s' v (nI c) (nI (b + 1))
          have iy : ¬ (nI b < 0 ∨ 79 ≤ (nI b).toNatClampNeg) := nI_in (by omega) (by decide)
          rw [fl_X7_deep_39, if_neg (nI_ge hb (by omega)), c22, if_neg (nI_in (by omega) (by decide)), nI_1]
          simp only [if_neg ix, if_neg iy]
          repeat' split
          all_goals exact ⟨_, rfl⟩
      rw [fl_X7_deep_9, hW.1, if_neg (nI_ge (by omega) (by omega))]
      simp only [if_neg ix]
      split
      · split
        · exact ih' _ _
        · exact ih' _ _
      · exact inner _ _
  exact outer n 300 0 tr 0 (by omega) (by omega)
theorem t_lay7 {n : Nat} {kd hd bd pt w : Nat → Int32} (hn : n ≤ 8) (hW : KW n kd hd bd pt w) {x : Nat} (hx : x < 2 ^ n) (h2 : w 2 = nI x) (ways : Nat → Int32) (p q : Int32) : ∃ r, f_X7_layWays w ways p q = some r := by
  have hx8 : x < 256 := Nat.lt_of_lt_of_le hx (p8 hn)
  have outer : ∀ m fuel s (ws : Nat → Int32), s + m = x + 1 → m < fuel → ∃ r, fl_X7_layWays_9 fuel w ws p q (nI s) = some r := by
    intro m
    induction m with
    | zero =>
      intro fuel s ws hs hfu
      obtain ⟨g, rfl⟩ : ∃ g, fuel = g + 1 := ⟨fuel - 1, by omega⟩
      rw [fl_X7_layWays_9, h2, if_pos (nI_lt (by omega) (by omega))]
      exact ⟨_, rfl⟩
    | succ m ih =>
      intro fuel s ws hs hfu
      obtain ⟨g, rfl⟩ : ∃ g, fuel = g + 1 := ⟨fuel - 1, by omega⟩
      have hs8 : s < 256 := by omega
      have ix : ¬ (nI s < 0 ∨ 256 ≤ (nI s).toNatClampNeg) := nI_in hs8 (by decide)
      have ih' : ∀ (ws : Nat → Int32), ∃ r, fl_X7_layWays_9 g w ws p q (nI s + 1) = some r := by
        intro ws
        rw [nI_1]
        exact ih g (s + 1) ws (by omega) (by omega)
      have inner : ∀ (ws : Nat → Int32), ∃ r, fl_X7_layWays_42 (fl_X7_layWays_9 g) 300 w ws p q (nI s) (0 : Int32) = some r := by
        intro ws
        refine lt (fun m u b => fl_X7_layWays_42 (fl_X7_layWays_9 g) m w u p q (nI s) (nI b)) n ?_ ?_ 300 ws 0 (by omega) (by omega)
        · intro m u
          show ∃ r, fl_X7_layWays_42 (fl_X7_layWays_9 g) (m + 1) w u p q (nI s) (nI n) = some r
          rw [fl_X7_layWays_42, hW.1, if_pos (Int32.le_refl _)]
          exact ih' u
        · intro m u b hb
          right
          show ∃ s', fl_X7_layWays_42 (fl_X7_layWays_9 g) (m + 1) w u p q (nI s) (nI b) = fl_X7_layWays_42 (fl_X7_layWays_9 g) m w s' p q (nI s) (nI (b + 1))
          have hl : sd s (2 ^ b) < 256 := sd_lt hs8
          have iy : ¬ (nI (sd s (2 ^ b)) < 0 ∨ 256 ≤ (nI (sd s (2 ^ b))).toNatClampNeg) := nI_in hl (by decide)
          rw [fl_X7_layWays_42, hW.1, if_neg (nI_ge hb (by omega)), s_isFree w hs8 (by omega), sd2 hs8 (by omega), nI_1]
          simp only [if_neg ix, if_neg iy]
          repeat' split
          all_goals exact ⟨_, rfl⟩
      rw [fl_X7_layWays_9, h2, if_neg (nI_nlt (by omega) (by omega)), if_neg ix]
      split
      · exact inner _
      · exact ih' _
  exact outer x 300 1 (upd ways 0 (1 : Int32)) (by omega) (by omega)
/-- one that is free: the least -/
theorem least_bit : ∀ (s : Nat), s ≠ 0 → ∃ c, s.testBit c = true ∧ ∀ d, d < c → s.testBit d = false := by
  intro s hs
  obtain ⟨c, hc⟩ := Nat.exists_testBit_of_ne_zero hs
  have H : ∀ c, s.testBit c = true → ∃ c, s.testBit c = true ∧ ∀ d, d < c → s.testBit d = false := by
    intro c
    induction c using Nat.strongRecOn with
    | ind c ih =>
      intro hc
      by_cases h : ∃ d, d < c ∧ s.testBit d = true
      · obtain ⟨d, hd, hd2⟩ := h
        exact ih d hd hd2
      · refine ⟨c, hc, fun d hd => ?_⟩
        cases hb : s.testBit d
        · rfl
        · exact absurd ⟨d, hd, hb⟩ h
  exact H c hc
theorem least_free {n : Nat} {kd hd bd pt : Nat → Int32} (hC : KC n kd hd bd pt) {s : Nat} (hs : s < 2 ^ n) (h0 : s ≠ 0) : ∃ c, c < n ∧ s.testBit c = true ∧ pfree bd s c = true ∧ ∀ d, d < c → s.testBit d = false := by
  obtain ⟨c, hc, hd'⟩ := least_bit s h0
  have hcn : c < n := by
    by_cases h : c < n
    · exact h
    · rw [tb_f hs (by omega)] at hc
      exact absurd hc (by decide)
  refine ⟨c, hcn, hc, ?_, hd'⟩
  obtain ⟨e1, -, e3⟩ := vb_eq hC hs hcn
  unfold pfree
  rw [hc, Bool.true_and, decide_eq_true_eq, e1]
  have hz : vb bd s c = 0 := by
    apply Nat.eq_of_testBit_eq
    intro i
    rw [Nat.zero_testBit]
    by_cases hi : i < c
    · have e4 : vb bd s c &&& s = vb bd s c := by
        obtain ⟨-, -, ⟨b, hb, eb⟩, -⟩ := hC.2 c hcn
        have p := p8 hC.1
        have h8 : b &&& s < 2 ^ n := Nat.lt_of_le_of_lt Nat.and_le_right hs
        unfold vb
        rw [eb, kb_and, nI_clamp (by omega), Nat.and_assoc, Nat.and_self]
      rw [← e4, Nat.testBit_and, hd' i hi, Bool.and_false]
    · exact tb_f e3 (by omega)
  rw [hz]
  rfl
theorem pfree_w {n : Nat} {kd hd bd pt w : Nat → Int32} (hW : KW n kd hd bd pt w) {s c : Nat} (hc : c < n) : pfree (fun c => w (22 + c)) s c = pfree bd s c := by
  show (_ && decide ((w (22 + c) &&& nI s) = 0)) = (_ && decide ((bd c &&& nI s) = 0))
  rw [(hW.2 c hc).2.2.1]
theorem sd_bit_lt {s c : Nat} (h : s.testBit c = true) (hc : c < 8) (hs : s < 256) : sd s (2 ^ c) < s := by
  have h1 : sd s (2 ^ c) ≤ s := Nat.and_le_left
  have h2 : sd s (2 ^ c) ≠ s := by
    intro e
    have h3 := sd_tb (a := s) (b := 2 ^ c) hc
    rw [e, h, Nat.testBit_two_pow, decide_eq_true rfl] at h3
    exact absurd h3 (by decide)
  omega
theorem t_orders7 {kd hd bd pt pn w : Nat → Int32} {sz ps t wars wet day drawn : Int32} (H : KR kd hd bd pt sz pn ps t wars wet day drawn w) (ways : Nat → Int32) (a1 : Int32) : ∃ q, f_X7_orders w ways a1 = some q := by
  obtain ⟨n, k, rfl, rfl, hC, hW, hG, hH, hP⟩ := H
  have hn := hC.1
  obtain ⟨⟨x, hx, rfl⟩, gw, gd, gr⟩ := hG
  have h2 : w 2 = nI x := hH.2.2.1
  have hx8 : x < 256 := Nat.lt_of_lt_of_le hx (p8 hn)
  have outer : ∀ s, s < 2 ^ n → ∀ fuel (k : Int32), s < fuel → ∃ q, fl_X7_orders_39 fuel w ways a1 (nI s) k = some q := by
    intro s
    induction s using Nat.strongRecOn with
    | ind s ih =>
      intro hs fuel k hfu
      obtain ⟨g, rfl⟩ : ∃ g, fuel = g + 1 := ⟨fuel - 1, by omega⟩
      have hs8 : s < 256 := Nat.lt_of_lt_of_le hs (p8 hn)
      rw [fl_X7_orders_39]
      by_cases h0 : s = 0
      · subst h0
        rw [if_pos (by decide)]
        exact ⟨_, rfl⟩
      · rw [if_neg (nI_ne0 (by omega) (by omega))]
        obtain ⟨c, hc, hb, hf, hl⟩ := least_free hC hs h0
        refine lt (fun m (u : Unit) v => fl_X7_orders_46 (fl_X7_orders_39 g) m w ways a1 (nI s) k (nI v)) c ?_ ?_ 300 () 0 (by omega) (by omega)
        · intro m _
          show ∃ r, fl_X7_orders_46 (fl_X7_orders_39 g) (m + 1) w ways a1 (nI s) k (nI c) = some r
          rw [fl_X7_orders_46, s_isFree w hs8 (by omega), pfree_w hW hc, hf, if_pos rfl]
          dsimp only
          rw [if_neg (by decide), sd2 hs8 (by omega)]
          have hlt := sd_bit_lt hb (show c < 8 by omega) hs8
          obtain ⟨q, eq⟩ := ih (sd s (2 ^ c)) hlt (sd_lt hs) g (k + 1) (by omega)
          rw [eq]
          split
          · exact ⟨_, rfl⟩
          · exact ⟨_, rfl⟩
        · intro m u v hv
          right
          show ∃ s', fl_X7_orders_46 (fl_X7_orders_39 g) (m + 1) w ways a1 (nI s) k (nI v) = fl_X7_orders_46 (fl_X7_orders_39 g) m w ways a1 (nI s) k (nI (v + 1))
          have e : pfree (fun c => w (22 + c)) s v = false := by
            show (s.testBit v && _) = false
            rw [hl v hv, Bool.false_and]
          rw [fl_X7_orders_46, s_isFree w hs8 (by omega), e, if_neg (by decide)]
          dsimp only
          rw [if_pos rfl, nI_1]
          exact ⟨(), rfl⟩
  unfold f_X7_orders
  split
  · split
    · obtain ⟨r, e⟩ := t_lay7 hn hW hx h2 ways (-1) 0
      rw [e]
      dsimp only
      rw [h2, if_neg (nI_in hx8 (by decide))]
      exact ⟨_, rfl⟩
    · rw [h2]
      exact outer x hx 300 0 (by omega)
  · exact ⟨_, rfl⟩
