/-! 5f: cuts and game answer alike -/
theorem bc_pc : ∀ a, a < 256 → f_J6_bitCount (nI a) = nI (pcn a 8) := by decide +kernel
theorem pcn_mono {a b : Nat} (h : ∀ j, a.testBit j = true → b.testBit j = true) : ∀ k, pcn a k ≤ pcn b k
  | 0 => Nat.le_refl 0
  | k + 1 => by
    have ih := pcn_mono h k
    show pcn a k + (if a.testBit k then 1 else 0) ≤ pcn b k + (if b.testBit k then 1 else 0)
    by_cases ha : a.testBit k = true
    · rw [if_pos ha, if_pos (h k ha)]; omega
    · rw [if_neg ha]; omega
theorem sub_le {a b : Nat} (h : ∀ j, a.testBit j = true → b.testBit j = true) : a ≤ b := by
  have e : a &&& b = a := by
    apply Nat.eq_of_testBit_eq
    intro j
    rw [Nat.testBit_and]
    cases ha : a.testBit j
    · rfl
    · rw [h j ha]; rfl
  rw [← e]
  exact Nat.and_le_right
theorem vb_bit {n : Nat} {kd hd bd pt : Nat → Int32} (hC : KC n kd hd bd pt) {x : Nat} (hx : x < 2 ^ n) {c : Nat} (hc : c < n) : ∃ b, bd c = nI b ∧ b < 2 ^ c ∧ vb bd x c = b &&& x := by
  obtain ⟨-, -, ⟨b, hb, eb⟩, -⟩ := hC.2 c hc
  have h8 : b &&& x < 2 ^ n := Nat.lt_of_le_of_lt Nat.and_le_right hx
  have p := p8 hC.1
  refine ⟨b, eb, hb, ?_⟩
  unfold vb
  rw [eb, kb_and, nI_clamp (by omega)]
/-- who is free among what is left without s -/
theorem pfree_sd {n : Nat} {kd hd bd pt : Nat → Int32} (hC : KC n kd hd bd pt) {x : Nat} (hx : x < 2 ^ n) {c s : Nat} (hc : c < n) : pfree bd (sd x s) c = true ↔ (x.testBit c = true ∧ s.testBit c = false ∧ ∀ j, (vb bd x c).testBit j = true → s.testBit j = true) := by
  have hn := hC.1
  obtain ⟨b, eb, hb, ev⟩ := vb_bit hC hx hc
  have hx8 : x < 256 := Nat.lt_of_lt_of_le hx (p8 hn)
  unfold pfree
  rw [Bool.and_eq_true, decide_eq_true_eq, eb, kb_and, ev, sd_tb (show c < 8 by omega), Bool.and_eq_true, Bool.not_eq_true']
  have hl : b &&& sd x s < 2 ^ 31 := Nat.lt_of_le_of_lt Nat.and_le_right (by have := sd_lt (b := s) hx8; omega)
  have h10 : nI (b &&& sd x s) = 0 ↔ b &&& sd x s = 0 := nI_eq (b := 0) hl (by omega)
  rw [h10]
  constructor
  · rintro ⟨⟨h1, h2⟩, h3⟩
    refine ⟨h1, h2, fun j hj => ?_⟩
    rw [Nat.testBit_and, Bool.and_eq_true] at hj
    have hj8 : j < 8 := by
      by_cases h : j < 8
      · exact h
      · have := hj.2
        rw [tb_f (n := 8) hx8 (by omega)] at this
        exact absurd this (by decide)
    have h4 : (b &&& sd x s).testBit j = false := by rw [h3, Nat.zero_testBit]
    rw [Nat.testBit_and, sd_tb hj8, hj.1, hj.2, Bool.true_and, Bool.true_and, Bool.not_eq_false'] at h4
    exact h4
  · rintro ⟨h1, h2, h3⟩
    refine ⟨⟨h1, h2⟩, Nat.eq_of_testBit_eq (fun j => ?_)⟩
    rw [Nat.zero_testBit, Nat.testBit_and]
    by_cases hj8 : j < 8
    · rw [sd_tb hj8]
      cases hbj : b.testBit j
      · rfl
      · cases hxj : x.testBit j
        · rfl
        · rw [h3 j (by rw [Nat.testBit_and, hbj, hxj]; rfl)]
          rfl
    · rw [tb_f (n := 8) (sd_lt hx8) (by omega), Bool.and_false]
theorem ko_cuts {kd hd bd pt pn w : Nat → Int32} {sz ps t wars wet day drawn : Int32} (H : KR kd hd bd pt sz pn ps t wars wet day drawn w) (tr : Nat → Int32) (a1 a2 a3 : Int32) : ∃ q1 q2, f_X6_cuts kd hd bd sz t wet day a1 a2 a3 = some q1 ∧ f_X7_cuts w tr a1 a2 a3 = some q2 ∧ q1 = q2.1 := by
  obtain ⟨n, k, rfl, rfl, hC, hW, hG, hH, hP⟩ := H
  have hn := hC.1
  obtain ⟨⟨x, hx, rfl⟩, gw, gd, gr⟩ := hG
  have h2 : w 2 = nI x := hH.2.2.1
  have hx8 : x < 256 := Nat.lt_of_lt_of_le hx (p8 hn)
  unfold f_X6_cuts f_X7_cuts f_X6_isForce
  simp only [kb_in7]
  rcases s_isCl hn hW.1 a1 with ⟨y1, y2⟩ | ⟨c, hc, rfl, y1, y2⟩
  · rw [if_pos y1, if_pos y2]; exact ⟨_, _, rfl, rfl, rfl⟩
  rw [if_neg y1, if_neg y2]
  by_cases c1 : f_X6_isWithin a2 (0 : Int32) (99 : Int32) = 0
  · rw [if_pos c1, if_pos c1]; exact ⟨_, _, rfl, rfl, rfl⟩
  rw [if_neg c1, if_neg c1]
  by_cases c2 : f_X6_isWithin a3 (0 : Int32) (1 : Int32) = 0
  · rw [if_pos c2, if_pos c2]; exact ⟨_, _, rfl, rfl, rfl⟩
  rw [if_neg c2, if_neg c2]
  obtain ⟨e1, e2, e3⟩ := vb_eq hC hx hc
  have hv8 : vb bd x c < 256 := Nat.lt_of_lt_of_le e2 (p8 hn)
  have hcv : (vb bd x c).testBit c = false := tb_f e3 (Nat.le_refl c)
  have hvx : ∀ j, (vb bd x c).testBit j = true → x.testBit j = true := by
    intro j hj
    obtain ⟨b, -, -, ev⟩ := vb_bit hC hx hc
    rw [ev, Nat.testBit_and, Bool.and_eq_true] at hj
    exact hj.2
  have hvle : vb bd x c ≤ x := sub_le hvx
  have m4 : ∀ a, a < 256 → ¬ nI a = (-4 : Int32) := by decide +kernel
  -- one set tried
  have try1 : ∀ (s : Nat) (tr : Nat → Int32), s < 256 → ∃ u b u', f_X7_begin w tr = some u ∧ f_X7_pullIn_1 (upd u 2 ((u 2) &&& (nI s ^^^ (-1 : Int32)))) a2 = some (nI b, u') ∧ b < 256 ∧ (b.testBit c = true ↔ ((x.testBit c = true ∧ ¬ a2 < f_X4_firmBy wet (kd c) (hd c) day) ∧ s.testBit c = false ∧ ∀ j, (vb bd x c).testBit j = true → s.testBit j = true)) := by
    intro s tr hs
    obtain ⟨u, eu, hu⟩ := s_begin w tr
    have hWu : KW n kd hd bd pt (upd u 2 ((u 2) &&& (nI s ^^^ (-1 : Int32)))) := KW_of hn hW (fun i h1 h2 => by rw [upd_ne (by omega)]; exact hu i (by omega))
    have h2u : upd u 2 ((u 2) &&& (nI s ^^^ (-1 : Int32))) 2 = nI (sd x s) := by rw [upd_eq, hu 2 (by omega), h2, kb_dif x hx8 s hs]
    have ep := s_pullIn hC hWu (sd_lt hx) h2u a2
    rw [show upd u 2 ((u 2) &&& (nI s ^^^ (-1 : Int32))) 3 = wet by rw [upd_ne (by omega), hu 3 (by omega)]; exact hH.2.2.2.1, show upd u 2 ((u 2) &&& (nI s ^^^ (-1 : Int32))) 0 = day by rw [upd_ne (by omega), hu 0 (by omega)]; exact hH.1] at ep
    refine ⟨u, _, _, eu, by rw [e_pull1]; exact ep, fallN_lt .., ?_⟩
    unfold fallN
    rw [ng_tb, decide_eq_true (show c < 8 by omega), Bool.true_and, Bool.and_eq_true, decide_eq_true_eq, pfree_sd hC hx hc]
    constructor
    · rintro ⟨⟨q1, q2, q3⟩, q4⟩; exact ⟨⟨q1, q4⟩, q2, q3⟩
    · rintro ⟨⟨q1, q4⟩, q2, q3⟩; exact ⟨⟨q1, q2, q3⟩, q4⟩
  have go : ∀ m fuel s (tr : Nat → Int32) (best : Int32), s + m = x + 1 → m < fuel → (((x.testBit c = true ∧ ¬ a2 < f_X4_firmBy wet (kd c) (hd c) day) ∧ vb bd x c < s) → best = nI (vb bd x c)) → (¬ ((x.testBit c = true ∧ ¬ a2 < f_X4_firmBy wet (kd c) (hd c) day) ∧ vb bd x c < s) → best = -4) →
      ∃ q, fl_X7_cuts_36 fuel w tr (nI c) a2 a3 best (nI s) = some q ∧ ((x.testBit c = true ∧ ¬ a2 < f_X4_firmBy wet (kd c) (hd c) day) → q.1 = if a3 = 0 then f_J6_bitCount (nI (vb bd x c)) else nI (vb bd x c)) ∧ (¬ (x.testBit c = true ∧ ¬ a2 < f_X4_firmBy wet (kd c) (hd c) day) → q.1 = -4) := by
    intro m
    induction m with
    | zero =>
      intro fuel s tr best hs hfu hb1 hb2
      obtain ⟨g, rfl⟩ : ∃ g, fuel = g + 1 := ⟨fuel - 1, by omega⟩
      have e : s = x + 1 := by omega
      subst e
      rw [fl_X7_cuts_36, h2, if_pos (nI_lt (by omega) (by omega))]
      by_cases hg : x.testBit c = true ∧ ¬ a2 < f_X4_firmBy wet (kd c) (hd c) day
      · have hb := hb1 ⟨hg, by omega⟩
        subst hb
        rw [if_neg (m4 _ hv8), bcnt _ hv8]
        dsimp only
        by_cases d0 : a3 = 0
        · rw [if_pos d0]
          exact ⟨_, rfl, fun _ => by rw [if_pos d0], fun h => absurd hg h⟩
        · rw [if_neg d0]
          exact ⟨_, rfl, fun _ => by rw [if_neg d0], fun h => absurd hg h⟩
      · have hb := hb2 (fun h => hg h.1)
        subst hb
        rw [if_pos rfl]
        exact ⟨_, rfl, fun h => absurd h hg, fun _ => rfl⟩
    | succ m ih =>
      intro fuel s tr best hs hfu hb1 hb2
      obtain ⟨g, rfl⟩ : ∃ g, fuel = g + 1 := ⟨fuel - 1, by omega⟩
      have hs8 : s < 256 := by omega
      have hsd : sd s x < 2 ^ 31 := by have := sd_lt (b := x) hs8; omega
      rw [fl_X7_cuts_36, h2, if_neg (nI_nlt (by omega) (by omega)), kb_dif s hs8 x hx8, nI_1]
      -- nothing changes
      have keep : ∀ tr, (¬ ((x.testBit c = true ∧ ¬ a2 < f_X4_firmBy wet (kd c) (hd c) day) ∧ vb bd x c = s)) → ∃ q, fl_X7_cuts_36 g w tr (nI c) a2 a3 best (nI (s + 1)) = some q ∧ ((x.testBit c = true ∧ ¬ a2 < f_X4_firmBy wet (kd c) (hd c) day) → q.1 = if a3 = 0 then f_J6_bitCount (nI (vb bd x c)) else nI (vb bd x c)) ∧ (¬ (x.testBit c = true ∧ ¬ a2 < f_X4_firmBy wet (kd c) (hd c) day) → q.1 = -4) := by
        intro tr hne
        refine ih g (s + 1) tr best (by omega) (by omega) (fun h => ?_) (fun h => ?_)
        · by_cases e : vb bd x c = s
          · exact absurd ⟨h.1, e⟩ hne
          · exact hb1 ⟨h.1, by omega⟩
        · exact hb2 (fun h' => h ⟨h'.1, by omega⟩)
      by_cases hsub : sd s x = 0
      · rw [if_pos (show nI (sd s x) = 0 by rw [hsub]; rfl)]
        cases hsc : s.testBit c
        · rw [if_pos (h7f hs8 (by omega) hsc)]
          obtain ⟨u, b, u', eu, ep, hb8, hbit⟩ := try1 s tr hs8
          by_cases hbest : (x.testBit c = true ∧ ¬ a2 < f_X4_firmBy wet (kd c) (hd c) day) ∧ vb bd x c < s
          · have hb := hb1 hbest
            rw [hb, if_neg (m4 _ hv8), bcnt s hs8, bcnt _ hv8]
            dsimp only
            have p1 := pc_le s hs8
            have p2 := pc_le _ hv8
            have bq : (f_J6_bitCount (nI (vb bd x c)) ≤ f_J6_bitCount (nI s)) ↔ pcn (vb bd x c) 8 ≤ pcn s 8 := by
              rw [bc_pc s hs8, bc_pc _ hv8]
              exact nI_leI (by omega) (by omega)
            rw [hb] at keep
            by_cases hle : pcn (vb bd x c) 8 ≤ pcn s 8
            · rw [if_pos (bq.mpr hle)]
              exact keep tr (fun h => by omega)
            · rw [if_neg (fun h => hle (bq.mp h)), eu]
              dsimp only
              rw [ep]
              dsimp only
              cases hbb : b.testBit c
              · rw [if_pos (h7f hb8 (by omega) hbb)]
                exact keep u' (fun h => by omega)
              · exfalso
                exact hle (pcn_mono (hbit.mp hbb).2.2 8)
          · have hb := hb2 hbest
            rw [hb, if_pos rfl, eu]
            dsimp only
            rw [ep]
            dsimp only
            rw [hb] at keep
            cases hbb : b.testBit c
            · rw [if_pos (h7f hb8 (by omega) hbb)]
              refine keep u' (fun h => ?_)
              have : b.testBit c = true := hbit.mpr ⟨h.1, hsc, fun j hj => by rw [← h.2]; exact hj⟩
              rw [hbb] at this
              exact absurd this (by decide)
            · rw [if_neg (h7t hb8 (by omega) hbb)]
              obtain ⟨q1, q2, q3⟩ := hbit.mp hbb
              have hvs : vb bd x c = s := by
                have l1 := sub_le q3
                have l2 : ¬ vb bd x c < s := fun h => hbest ⟨q1, h⟩
                omega
              refine ih g (s + 1) u' (nI s) (by omega) (by omega) (fun _ => by rw [hvs]) (fun h => absurd ⟨q1, by omega⟩ h)
        · rw [if_neg (h7t hs8 (by omega) hsc)]
          refine keep tr (fun h => ?_)
          rw [← h.2, hcv] at hsc
          exact absurd hsc (by decide)
      · rw [if_neg (nI_ne0 (by omega) hsd)]
        refine keep tr (fun h => hsub ?_)
        apply Nat.eq_of_testBit_eq
        intro j
        rw [Nat.zero_testBit, ← h.2]
        by_cases hj8 : j < 8
        · rw [sd_tb hj8]
          cases hvj : (vb bd x c).testBit j
          · rfl
          · rw [hvx j hvj]; rfl
        · exact tb_f (n := 8) (sd_lt hv8) (by omega)
  obtain ⟨q, eq, hq1, hq2⟩ := go (x + 1) 300 0 tr (-4) (by omega) (by omega) (fun h => absurd h.2 (by omega)) (fun _ => rfl)
  have eq' : fl_X7_cuts_36 300 w tr (nI c) a2 a3 (-4 : Int32) (0 : Int32) = some q := eq
  rw [eq']
  cases hxc : x.testBit c
  · rw [if_pos (h6f hx8 (by omega) hxc)]
    exact ⟨_, _, rfl, rfl, (hq2 (fun h => by rw [hxc] at h; exact absurd h.1 (by decide))).symm⟩
  rw [if_neg (h6t hx8 (by omega) hxc), s_firm6 kd hd wet day (by omega)]
  dsimp only
  by_cases hf : a2 < f_X4_firmBy wet (kd c) (hd c) day
  · rw [if_neg (fun h => Int32.not_lt.mpr h hf)]
    exact ⟨_, _, rfl, rfl, (hq2 (fun h => h.2 hf)).symm⟩
  · rw [if_pos (Int32.not_lt.mp hf), if_neg (nI_in (by omega) (by decide)), nI_clamp (by omega), e1]
    have h := hq1 ⟨hxc, hf⟩
    by_cases d0 : a3 = 0
    · rw [if_pos d0] at h ⊢
      exact ⟨_, _, rfl, rfl, h.symm⟩
    · rw [if_neg d0] at h ⊢
      exact ⟨_, _, rfl, rfl, h.symm⟩
/-- the least number in a set -/
theorem s_nth0 {F : Nat} (hF : F < 256) : ∃ r, f_X6_nthOf (nI F) (0 : Int32) = some r ∧ ((∀ c, c < 8 → F.testBit c = false) ∧ r = -4 ∨ ∃ c, c < 8 ∧ F.testBit c = true ∧ (∀ d, d < c → F.testBit d = false) ∧ r = nI c) := by
  refine lp (fun m (u : Unit) v => fl_X6_nthOf_4 m (nI F) (0 : Int32) (nI v)) 8 (fun v _ => ∀ d, d < v → F.testBit d = false) _ ?_ ?_ 8 300 () 0 (by omega) (by omega) (fun d hd' => absurd hd' (by omega))
  · intro m _ h
    refine ⟨-4, ?_, Or.inl ⟨h, rfl⟩⟩
    show fl_X6_nthOf_4 (m + 1) (nI F) (0 : Int32) (nI 8) = some (-4)
    rw [fl_X6_nthOf_4, if_pos (by decide)]
  · intro m u v hv h
    show (∃ r, fl_X6_nthOf_4 (m + 1) (nI F) (0 : Int32) (nI v) = some r ∧ _) ∨ ∃ s' : Unit, _ ∧ fl_X6_nthOf_4 (m + 1) (nI F) (0 : Int32) (nI v) = fl_X6_nthOf_4 m (nI F) (0 : Int32) (nI (v + 1))
    rw [fl_X6_nthOf_4, if_neg (kb8 hv), nI_1]
    cases hb : F.testBit v
    · right
      rw [if_pos (h6f hF hv hb)]
      refine ⟨(), fun d hd' => ?_, rfl⟩
      by_cases e : d = v
      · subst e; exact hb
      · exact h d (by omega)
    · left
      rw [if_neg (h6t hF hv hb), if_pos rfl]
      exact ⟨_, rfl, Or.inr ⟨v, hv, hb, h, rfl⟩⟩
theorem ko_game {kd hd bd pt pn w : Nat → Int32} {sz ps t wars wet day drawn : Int32} (H : KR kd hd bd pt sz pn ps t wars wet day drawn w) (wins : Nat → Int32) (a1 a2 : Int32) : ∃ q1 q2, f_X6_game bd t a1 a2 = some q1 ∧ f_X7_game w wins a1 a2 = some q2 ∧ q1 = q2.1 := by
  obtain ⟨n, k, rfl, rfl, hC, hW, hG, hH, hP⟩ := H
  have hn := hC.1
  obtain ⟨⟨x, hx, rfl⟩, gw, gd, gr⟩ := hG
  have h2 : w 2 = nI x := hH.2.2.1
  have hx8 : x < 256 := Nat.lt_of_lt_of_le hx (p8 hn)
  unfold f_X6_game f_X7_game
  simp only [kb_in7]
  by_cases c1 : f_X6_isWithin a1 (0 : Int32) (1 : Int32) = 0
  · rw [if_pos c1, if_pos c1]; exact ⟨_, _, rfl, rfl, rfl⟩
  rw [if_neg c1, if_neg c1]
  by_cases c2 : f_X6_isWithin a2 (0 : Int32) (1 : Int32) = 0
  · rw [if_pos c2, if_pos c2]; exact ⟨_, _, rfl, rfl, rfl⟩
  rw [if_neg c2, if_neg c2]
  obtain ⟨l, -, hl, rfl⟩ := kb_win (a := 0) (b := 1) (by omega) (by omega) c1
  -- the reference
  have outer : ∀ m fuel s (ws : Nat → Int32) (best : Int32), s + m = x + 1 → 1 ≤ s → m < fuel → (∀ u, u < s → sd u x = 0 → ws u = if (pcn u 8 + l) % 2 = 1 then 1 else 0) → (s = x + 1 → (((pcn x 8 + l) % 2 = 1 ∧ x ≠ 0 → ∃ c, c < n ∧ pfree bd x c = true ∧ (∀ d, d < c → pfree bd x d = false) ∧ best = nI c) ∧ (¬ ((pcn x 8 + l) % 2 = 1 ∧ x ≠ 0) → best = -4))) →
      ∃ q, fl_X7_game_42 fuel w ws a2 best (nI s) = some q ∧ (a2 = 0 → q.1 = if (pcn x 8 + l) % 2 = 1 then 1 else 0) ∧ (¬ a2 = 0 → (((pcn x 8 + l) % 2 = 1 ∧ x ≠ 0 → ∃ c, c < n ∧ pfree bd x c = true ∧ (∀ d, d < c → pfree bd x d = false) ∧ q.1 = nI c) ∧ (¬ ((pcn x 8 + l) % 2 = 1 ∧ x ≠ 0) → q.1 = -4))) := by
    intro m
    induction m with
    | zero =>
      intro fuel s ws best hs hs1 hfu hws hbest
      obtain ⟨g, rfl⟩ : ∃ g, fuel = g + 1 := ⟨fuel - 1, by omega⟩
      have e : s = x + 1 := by omega
      subst e
      have hbx := hbest rfl
      have hwx := hws x (by omega) (sd_self hx8)
      rw [fl_X7_game_42, h2, if_pos (nI_lt (by omega) (by omega)), if_neg (nI_in hx8 (by decide)), nI_clamp (by omega)]
      by_cases d0 : a2 = 0
      · rw [if_pos d0, hwx]
        by_cases hw1 : (pcn x 8 + l) % 2 = 1
        · rw [if_pos hw1, if_neg n10]
          exact ⟨_, rfl, fun _ => rfl, fun h => absurd d0 h⟩
        · rw [if_neg hw1, if_pos rfl]
          exact ⟨_, rfl, fun _ => rfl, fun h => absurd d0 h⟩
      · rw [if_neg d0]
        exact ⟨_, rfl, fun h => absurd h d0, fun _ => hbx⟩
    | succ m ih =>
      intro fuel s ws best hs hs1 hfu hws hbest
      obtain ⟨g, rfl⟩ : ∃ g, fuel = g + 1 := ⟨fuel - 1, by omega⟩
      have hs8 : s < 256 := by omega
      have ix : ¬ (nI s < 0 ∨ 256 ≤ (nI s).toNatClampNeg) := nI_in hs8 (by decide)
      have cl : (nI s).toNatClampNeg = s := nI_clamp (by omega)
      have hsn : s < 2 ^ n := by omega
      rw [fl_X7_game_42, h2, if_neg (nI_nlt (by omega) (by omega)), if_neg ix, hW.1, Int32.sub_eq_add_neg, cl]
      by_cases hsub : sd s x = 0
      · obtain ⟨c0, hc0, hb0, hf0, -⟩ := least_free hC hsn (show s ≠ 0 by omega)
        -- downward over the clauses
        have inner : ∀ k fuel (ws' : Nat → Int32) (best' : Int32), k ≤ n → k < fuel → (∀ u, u < s → ws' u = ws u) → ((∀ c, k ≤ c → c < n → ¬ ((pcn s 8 + l) % 2 = 1 ∧ pfree bd s c = true)) ∧ ws' s = 0 ∧ best' = -4 ∨ (pcn s 8 + l) % 2 = 1 ∧ ws' s = 1 ∧ ∃ c, k ≤ c ∧ c < n ∧ pfree bd s c = true ∧ (∀ d, k ≤ d → d < c → pfree bd s d = false) ∧ best' = nI c) →
            ∃ q, fl_X7_game_74 (fl_X7_game_42 g) fuel w ws' a2 best' (nI s) (nI k + (-1 : Int32)) = some q ∧ (a2 = 0 → q.1 = if (pcn x 8 + l) % 2 = 1 then 1 else 0) ∧ (¬ a2 = 0 → (((pcn x 8 + l) % 2 = 1 ∧ x ≠ 0 → ∃ c, c < n ∧ pfree bd x c = true ∧ (∀ d, d < c → pfree bd x d = false) ∧ q.1 = nI c) ∧ (¬ ((pcn x 8 + l) % 2 = 1 ∧ x ≠ 0) → q.1 = -4))) := by
          intro k
          induction k with
          | zero =>
            intro fuel ws' best' _ hfu hsame hst
            obtain ⟨f, rfl⟩ : ∃ f, fuel = f + 1 := ⟨fuel - 1, by omega⟩
            rw [fl_X7_game_74, if_pos (by decide), nI_1]
            refine ih g (s + 1) ws' best' (by omega) (by omega) (by omega) (fun u hu hux => ?_) (fun hsx => ?_)
            · by_cases e : u = s
              · subst e
                rcases hst with ⟨h1, h3, -⟩ | ⟨h1, h3, -⟩
                · rw [h3, if_neg (fun hw => h1 c0 (by omega) hc0 ⟨hw, hf0⟩)]
                · rw [h3, if_pos h1]
              · rw [hsame u (by omega)]
                exact hws u (by omega) hux
            · have e : s = x := by omega
              subst e
              rcases hst with ⟨h1, -, h4⟩ | ⟨h1, -, c, -, hcn, hcf, hcl, h4⟩
              · exact ⟨fun hw => absurd ⟨hw.1, hf0⟩ (h1 c0 (by omega) hc0), fun _ => h4⟩
              · exact ⟨fun _ => ⟨c, hcn, hcf, fun d hd' => hcl d (by omega) hd', h4⟩, fun h => absurd ⟨h1, by omega⟩ h⟩
          | succ k ihk =>
            intro fuel ws' best' hk hfu hsame hst
            obtain ⟨f, rfl⟩ : ∃ f, fuel = f + 1 := ⟨fuel - 1, by omega⟩
            have hl8 : sd s (2 ^ k) < 256 := sd_lt hs8
            have iy : ¬ (nI (sd s (2 ^ k)) < 0 ∨ 256 ≤ (nI (sd s (2 ^ k))).toNatClampNeg) := nI_in hl8 (by decide)
            rw [fl_X7_game_74, pk_m1, if_neg (nI_pos (by omega)), h2, kb_dif s hs8 x hx8, if_pos (show nI (sd s x) = 0 by rw [hsub]; rfl), s_isFree w hs8 (by omega), pfree_w hW (by omega), sd2 hs8 (by omega)]
            simp only [if_neg ix, if_neg iy]
            rw [cl, nI_clamp (n := sd s (2 ^ k)) (by omega)]
            cases hf : pfree bd s k
            · rw [if_pos (show (if (false = true) then (1 : Int32) else 0) = 0 from rfl)]
              refine ihk f ws' best' (by omega) (by omega) hsame ?_
              rcases hst with ⟨h1, h3, h4⟩ | ⟨h1, h3, c, hkc, hcn, hcf, hcl, h4⟩
              · refine Or.inl ⟨fun c hkc hcn hh => ?_, h3, h4⟩
                by_cases e : c = k
                · subst e; rw [hf] at hh; exact absurd hh.2 (by decide)
                · exact h1 c (by omega) hcn hh
              · refine Or.inr ⟨h1, h3, c, by omega, hcn, hcf, fun d hd1 hd2 => ?_, h4⟩
                by_cases e : d = k
                · subst e; exact hf
                · exact hcl d (by omega) hd2
            · rw [if_pos rfl, if_neg n10]
              have hbit : s.testBit k = true := by
                unfold pfree at hf
                rw [Bool.and_eq_true] at hf
                exact hf.1
              have hlt := sd_bit_lt hbit (show k < 8 by omega) hs8
              have hpc := pc_sd s hs8 k (by omega) hbit
              have hwk : ws' (sd s (2 ^ k)) = if (pcn (sd s (2 ^ k)) 8 + l) % 2 = 1 then 1 else 0 := (hsame _ hlt).trans (hws _ (by omega) (sd_sub hsub))
              rw [hwk]
              by_cases hw1 : (pcn s 8 + l) % 2 = 1
              · rw [if_neg (show ¬ (pcn (sd s (2 ^ k)) 8 + l) % 2 = 1 by omega), if_pos rfl]
                refine ihk f (upd ws' s 1) (nI k) (by omega) (by omega) (fun u hu => (upd_ne (by omega)).trans (hsame u hu)) (Or.inr ⟨hw1, upd_eq, k, Nat.le_refl k, by omega, hf, fun d hd1 hd2 => absurd hd2 (by omega), rfl⟩)
              · rw [if_pos (show (pcn (sd s (2 ^ k)) 8 + l) % 2 = 1 by omega), if_neg n10]
                refine ihk f ws' best' (by omega) (by omega) hsame ?_
                rcases hst with ⟨h1, h3, h4⟩ | ⟨h1, -⟩
                · exact Or.inl ⟨fun c hkc hcn hh => hw1 hh.1, h3, h4⟩
                · exact absurd h1 hw1
        exact inner n 300 (upd ws s 0) (-4) (by omega) (by omega) (fun u hu => upd_ne (by omega)) (Or.inl ⟨fun c h1 h3 => absurd h3 (by omega), upd_eq, rfl⟩)
      · -- not a set of tied ones: the loop ends at once, unless there is none
        have hsd : sd s x < 2 ^ 31 := by have := sd_lt (b := x) hs8; omega
        have nxt : ∃ q, fl_X7_game_42 g w (upd ws s 0) a2 (-4 : Int32) (nI s + 1) = some q ∧ (a2 = 0 → q.1 = if (pcn x 8 + l) % 2 = 1 then 1 else 0) ∧ (¬ a2 = 0 → (((pcn x 8 + l) % 2 = 1 ∧ x ≠ 0 → ∃ c, c < n ∧ pfree bd x c = true ∧ (∀ d, d < c → pfree bd x d = false) ∧ q.1 = nI c) ∧ (¬ ((pcn x 8 + l) % 2 = 1 ∧ x ≠ 0) → q.1 = -4))) := by
          rw [nI_1]
          refine ih g (s + 1) _ _ (by omega) (by omega) (by omega) (fun u hu hux => ?_) (fun hsx => ?_)
          · by_cases e : u = s
            · subst e; exact absurd hux hsub
            · rw [upd_ne e]; exact hws u (by omega) hux
          · have e : s = x := by omega
            subst e
            exact absurd (sd_self hs8) hsub
        rw [fl_X7_game_74]
        by_cases hn0 : nI n + -(1 : Int32) < 0
        · rw [if_pos hn0]; exact nxt
        · rw [if_neg hn0, h2, kb_dif s hs8 x hx8, if_neg (nI_ne0 (by omega) hsd)]; exact nxt
  have w0 : ∀ v : Int32, (v = if l % 2 = 1 then 1 else 0) → ∃ q, fl_X7_game_42 300 w (upd wins 0 v) a2 (-4 : Int32) (1 : Int32) = some q ∧ (a2 = 0 → q.1 = if (pcn x 8 + l) % 2 = 1 then 1 else 0) ∧ (¬ a2 = 0 → (((pcn x 8 + l) % 2 = 1 ∧ x ≠ 0 → ∃ c, c < n ∧ pfree bd x c = true ∧ (∀ d, d < c → pfree bd x d = false) ∧ q.1 = nI c) ∧ (¬ ((pcn x 8 + l) % 2 = 1 ∧ x ≠ 0) → q.1 = -4))) := by
    intro v hv
    refine outer x 300 1 (upd wins 0 v) (-4) (by omega) (by omega) (by omega) (fun u hu _ => ?_) (fun h => ⟨fun hh => absurd (show x = 0 by omega) hh.2, fun _ => rfl⟩)
    have e : u = 0 := by omega
    subst e
    have p0 : pcn 0 8 = 0 := by decide
    rw [upd_eq, hv, p0, Nat.zero_add]
  have ref : ∃ q, (if nI l = (1 : Int32) then fl_X7_game_42 300 w (upd wins 0 (1 : Int32)) a2 (-4 : Int32) (1 : Int32) else fl_X7_game_42 300 w (upd wins 0 (0 : Int32)) a2 (-4 : Int32) (1 : Int32)) = some q ∧ (a2 = 0 → q.1 = if (pcn x 8 + l) % 2 = 1 then 1 else 0) ∧ (¬ a2 = 0 → (((pcn x 8 + l) % 2 = 1 ∧ x ≠ 0 → ∃ c, c < n ∧ pfree bd x c = true ∧ (∀ d, d < c → pfree bd x d = false) ∧ q.1 = nI c) ∧ (¬ ((pcn x 8 + l) % 2 = 1 ∧ x ≠ 0) → q.1 = -4))) := by
    by_cases hl1 : l = 1
    · subst hl1
      rw [if_pos (show nI 1 = (1 : Int32) from rfl)]
      exact w0 1 rfl
    · have e : l = 0 := by omega
      subst e
      rw [if_neg (show ¬ nI 0 = (1 : Int32) by decide)]
      exact w0 0 rfl
  obtain ⟨q, eq, hq0, hq1⟩ := ref
  rw [eq]
  have p8' := pc_le x hx8
  have win : ((f_J6_bitCount (nI x) + nI l) - (f_J6_bitCount (nI x) + nI l) / (2 : Int32) * (2 : Int32)) = nI ((pcn x 8 + l) % 2) := by
    rw [bc_pc x hx8, nI_add]
    exact pk_rem (d := 2) (by omega) (by omega) (by omega)
  rw [win]
  obtain ⟨r, er, hr⟩ := s_nth0 (F := ng (pfree bd x) 8) (ng_lt _ 8)
  rw [s_free6 bd hx8]
  dsimp only
  rw [er]
  dsimp only
  have ftb : ∀ c, c < 8 → (ng (pfree bd x) 8).testBit c = pfree bd x c := by
    intro c hc
    rw [ng_tb, decide_eq_true hc, Bool.true_and]
  by_cases hw1 : (pcn x 8 + l) % 2 = 1
  · rw [if_pos (show nI ((pcn x 8 + l) % 2) = (1 : Int32) by rw [hw1]; rfl)]
    by_cases d0 : a2 = 0
    · rw [if_pos d0]
      have h := hq0 d0
      rw [if_pos hw1] at h
      exact ⟨_, _, rfl, rfl, h.symm⟩
    · rw [if_neg d0]
      refine ⟨_, _, rfl, rfl, ?_⟩
      obtain ⟨ha, hb⟩ := hq1 d0
      by_cases hx0 : x = 0
      · rw [hb (fun h => h.2 hx0)]
        rcases hr with ⟨-, hr⟩ | ⟨c, hc8, hcb, -, -⟩
        · exact hr
        · exfalso
          rw [ftb c hc8] at hcb
          unfold pfree at hcb
          rw [hx0, Nat.zero_testBit, Bool.false_and] at hcb
          exact absurd hcb (by decide)
      · obtain ⟨c, hcn, hcf, hcl, hc⟩ := ha ⟨hw1, hx0⟩
        rw [hc]
        rcases hr with ⟨hno, -⟩ | ⟨c', hc8, hcb, hcl', hr⟩
        · have := hno c (by omega)
          rw [ftb c (by omega), hcf] at this
          exact absurd this (by decide)
        · rw [hr]
          congr 1
          rw [ftb c' hc8] at hcb
          by_cases h1 : c' < c
          · rw [hcl c' h1] at hcb
            exact absurd hcb (by decide)
          · by_cases h3 : c < c'
            · have := hcl' c h3
              rw [ftb c (by omega), hcf] at this
              exact absurd this (by decide)
            · omega
  · have hz : (pcn x 8 + l) % 2 = 0 := by omega
    rw [if_neg (show ¬ nI ((pcn x 8 + l) % 2) = (1 : Int32) by rw [hz]; decide)]
    by_cases d0 : a2 = 0
    · rw [if_pos d0]
      have h := hq0 d0
      rw [if_neg hw1] at h
      exact ⟨_, _, rfl, rfl, h.symm⟩
    · rw [if_neg d0]
      exact ⟨_, _, rfl, rfl, ((hq1 d0).2 (fun h => hw1 h.1)).symm⟩
