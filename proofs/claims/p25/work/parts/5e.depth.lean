/-! 5e: depth; pulls, force, deep answer alike -/
def mxo (f : Nat → Nat) (s : Nat) : Nat → Nat
  | 0 => 0
  | k + 1 => if s.testBit k then (if mxo f s k < f k then f k else mxo f s k) else mxo f s k
theorem mxo_iff (f : Nat → Nat) (s B : Nat) : ∀ k, mxo f s k ≤ B ↔ ∀ c, c < k → s.testBit c = true → f c ≤ B
  | 0 => ⟨fun _ c hc => absurd hc (by omega), fun _ => Nat.zero_le _⟩
  | k + 1 => by
    have ih := mxo_iff f s B k
    unfold mxo
    constructor
    · intro h c hc ht
      by_cases e : c = k
      · subst e
        rw [if_pos ht] at h
        split at h <;> omega
      · refine ih.mp ?_ c (by omega) ht
        split at h
        · split at h <;> omega
        · exact h
    · intro h
      have h1 := ih.mpr (fun c hc ht => h c (by omega) ht)
      split
      · rename_i ht
        split
        · exact h k (by omega) ht
        · exact h1
      · exact h1
theorem mxo_ext {f g : Nat → Nat} {s : Nat} : ∀ k, (∀ c, c < k → s.testBit c = true → f c = g c) → mxo f s k = mxo g s k
  | 0, _ => rfl
  | k + 1, h => by
    unfold mxo
    rw [mxo_ext k (fun c hc ht => h c (by omega) ht)]
    by_cases ht : s.testBit k = true
    · rw [if_pos ht, if_pos ht, h k (by omega) ht]
    · rw [if_neg ht, if_neg ht]
theorem mxo_cut {f : Nat → Nat} {s n : Nat} (hs : s < 2 ^ n) : ∀ m, mxo f s (n + m) = mxo f s n
  | 0 => rfl
  | m + 1 => by
    show (if s.testBit (n + m) then _ else mxo f s (n + m)) = _
    rw [tb_f hs (by omega), if_neg (by decide)]
    exact mxo_cut hs m
theorem mxo_and {f : Nat → Nat} {s x : Nat} (h : ∀ c, x.testBit c = false → f c = 0) : ∀ k, mxo f (s &&& x) k = mxo f s k
  | 0 => rfl
  | k + 1 => by
    unfold mxo
    rw [mxo_and h k, Nat.testBit_and]
    cases hs : s.testBit k
    · rw [Bool.false_and]
    · cases hx : x.testBit k
      · rw [Bool.and_false, if_neg (by decide), if_pos rfl, h k hx, if_neg (by omega)]
      · rfl
noncomputable def dps (bd : Nat → Int32) (x : Nat) : Nat → Nat → Nat
  | 0 => fun _ => 0
  | k + 1 => fun c => if c = k then (if x.testBit k then 1 + mxo (dps bd x k) (vb bd x k) 8 else 0) else dps bd x k c
noncomputable def dpt (bd : Nat → Int32) (x c : Nat) : Nat := dps bd x (c + 1) c
theorem dps_le (bd : Nat → Int32) (x : Nat) : ∀ k c, dps bd x k c ≤ k
  | 0, c => Nat.le_refl 0
  | k + 1, c => by
    show (if c = k then (if x.testBit k then 1 + mxo (dps bd x k) (vb bd x k) 8 else 0) else dps bd x k c) ≤ k + 1
    have h1 := (mxo_iff (dps bd x k) (vb bd x k) k 8).mpr (fun c _ _ => dps_le bd x k c)
    have h2 := dps_le bd x k c
    split
    · split <;> omega
    · omega
theorem dps_st (bd : Nat → Int32) (x : Nat) {c : Nat} : ∀ k, c < k → dps bd x k c = dpt bd x c
  | 0, h => absurd h (by omega)
  | k + 1, h => by
    by_cases e : c = k
    · subst e; rfl
    · show (if c = k then _ else dps bd x k c) = _
      rw [if_neg e]
      exact dps_st bd x k (by omega)
theorem dpt_0 {bd : Nat → Int32} {x c : Nat} (h : x.testBit c = false) : dpt bd x c = 0 := by
  show (if c = c then (if x.testBit c then _ else 0) else _) = 0
  rw [if_pos rfl, h, if_neg (by decide)]
theorem dpt_1 {n : Nat} {kd hd bd pt : Nat → Int32} (hC : KC n kd hd bd pt) {x : Nat} (hx : x < 2 ^ n) {c : Nat} (hc : c < n) (h : x.testBit c = true) : dpt bd x c = 1 + mxo (dpt bd x) (vb bd x c) 8 := by
  show (if c = c then (if x.testBit c then 1 + mxo (dps bd x c) (vb bd x c) 8 else 0) else _) = _
  rw [if_pos rfl, if_pos h]
  congr 1
  refine mxo_ext 8 (fun d _ hd' => dps_st bd x c ?_)
  by_cases hdc : d < c
  · exact hdc
  · rw [tb_f (vb_eq hC hx hc).2.2 (by omega)] at hd'
    exact absurd hd' (by decide)
theorem dpt_le {bd : Nat → Int32} {x c : Nat} (hc : c < 8) : dpt bd x c ≤ 8 := Nat.le_trans (dps_le bd x (c + 1) c) (by omega)
theorem s_deepA {fd : Nat → Int32} {g : Nat → Nat} {set : Nat} (hs : set < 256) (h : ∀ c, c < 8 → set.testBit c = true → fd c = nI (g c)) (hg : ∀ c, c < 8 → g c ≤ 8) : f_X1_deepestAmong fd (nI set) = some (nI (mxo g set 8)) := by
  obtain ⟨r, e, q⟩ := lp (fun m s v => fl_X1_deepestAmong_4 m fd (nI set) s (nI v)) 8 (fun v s => s = nI (mxo g set v)) (fun r => r = nI (mxo g set 8))
    (fun m s hs => ⟨s, by
      show fl_X1_deepestAmong_4 (m + 1) fd (nI set) s (nI 8) = some s
      rw [fl_X1_deepestAmong_4, if_pos (by decide)], hs⟩)
    (fun m s v hv hs' => by
      right
      subst hs'
      refine ⟨_, rfl, ?_⟩
      show fl_X1_deepestAmong_4 (m + 1) fd (nI set) (nI (mxo g set v)) (nI v) = fl_X1_deepestAmong_4 m fd (nI set) (nI (if set.testBit v then (if mxo g set v < g v then g v else mxo g set v) else mxo g set v)) (nI (v + 1))
      rw [fl_X1_deepestAmong_4, if_neg (kb8 hv)]
      cases ht : set.testBit v
      · rw [if_pos (h6f hs hv ht), if_neg (by decide), nI_1]
      · have hm := (mxo_iff g set 8 v).mpr (fun c hc _ => hg c (by omega))
        have hgv := hg v hv
        rw [if_neg (h6t hs hv ht), if_neg (nI_in hv (by decide)), nI_clamp (by omega), h v hv ht, if_pos rfl, nI_1]
        by_cases hl : mxo g set v < g v
        · rw [if_pos hl, if_pos (nI_lt hl (by omega))]
        · rw [if_neg hl, if_neg (nI_nlt (by omega) (by omega))])
    8 300 0 0 (by omega) (by omega) rfl
  rw [q] at e
  exact e
theorem s_fillD {n : Nat} {kd hd bd pt : Nat → Int32} (hC : KC n kd hd bd pt) {x : Nat} (hx : x < 2 ^ n) (fd : Nat → Int32) : ∃ r, f_X1_fillDepths bd (nI x) fd = some r ∧ ∀ c, c < 8 → r c = nI (dpt bd x c) := by
  have hn := hC.1
  have hx8 : x < 256 := Nat.lt_of_lt_of_le hx (p8 hn)
  exact lp (fun m s v => fl_X1_fillDepths_2 m bd (nI x) s (nI v)) 8 (fun v s => ∀ c, c < v → s c = nI (dpt bd x c)) _
    (fun m s h => ⟨s, by
      show fl_X1_fillDepths_2 (m + 1) bd (nI x) s (nI 8) = some s
      rw [fl_X1_fillDepths_2, if_pos (by decide)], h⟩)
    (fun m s v hv h => by
      right
      refine ⟨upd s v (nI (dpt bd x v)), ?_, ?_⟩
      · intro c hc
        by_cases e : c = v
        · subst e; exact upd_eq
        · rw [upd_ne e]; exact h c (by omega)
      · show fl_X1_fillDepths_2 (m + 1) bd (nI x) s (nI v) = fl_X1_fillDepths_2 m bd (nI x) _ (nI (v + 1))
        have ix : ¬ (nI v < 0 ∨ 8 ≤ (nI v).toNatClampNeg) := nI_in hv (by decide)
        rw [fl_X1_fillDepths_2, if_neg (kb8 hv)]
        cases ht : x.testBit v
        · rw [if_pos (h6f hx8 hv ht), if_neg ix, nI_clamp (by omega), dpt_0 ht, nI_1]
          rfl
        · have hvn : v < n := by
            by_cases hh : v < n
            · exact hh
            · rw [tb_f hx (by omega)] at ht
              exact absurd ht (by decide)
          obtain ⟨e1, e2, e3⟩ := vb_eq hC hx hvn
          have hd' := s_deepA (fd := s) (g := dpt bd x) (set := vb bd x v) (Nat.lt_of_lt_of_le e2 (p8 hn)) (fun c hc hb => h c (by
            by_cases hh : c < v
            · exact hh
            · rw [tb_f e3 (by omega)] at hb
              exact absurd hb (by decide))) (fun c hc => dpt_le hc)
          rw [if_neg (h6t hx8 hv ht), if_neg ix, nI_clamp (by omega), e1, hd']
          dsimp only
          have e4 : (1 : Int32) + nI (mxo (dpt bd x) (vb bd x v) 8) = nI (1 + mxo (dpt bd x) (vb bd x v) 8) := nI_add 1 _
          rw [if_neg (show ¬ (nI v < 0 ∨ 8 ≤ v) by
            rintro (hh | hh)
            · exact nI_pos (by omega) hh
            · omega), e4, ← dpt_1 hC hx hvn ht, nI_1])
    8 300 fd 0 (by omega) (by omega) (fun c hc => absurd hc (by omega))
theorem mxo_all {bd : Nat → Int32} {n x : Nat} (hx : x < 2 ^ n) : ∀ m, mxo (dpt bd x) 255 (n + m) = mxo (dpt bd x) 255 n
  | 0 => rfl
  | m + 1 => by
    have ih := mxo_all (bd := bd) hx m
    show (if Nat.testBit 255 (n + m) then (if mxo (dpt bd x) 255 (n + m) < dpt bd x (n + m) then _ else mxo (dpt bd x) 255 (n + m)) else mxo (dpt bd x) 255 (n + m)) = _
    rw [dpt_0 (tb_f hx (by omega)), if_neg (show ¬ mxo (dpt bd x) 255 (n + m) < 0 by omega)]
    split <;> exact ih
theorem ko_deep {kd hd bd pt pn w : Nat → Int32} {sz ps t wars wet day drawn : Int32} (H : KR kd hd bd pt sz pn ps t wars wet day drawn w) (fd tr : Nat → Int32) : ∃ q1 q2, f_X6_deep bd t fd = some q1 ∧ f_X7_deep w tr = some q2 ∧ q1.1 = q2.1 := by
  obtain ⟨n, k, rfl, rfl, hC, hW, hG, hH, hP⟩ := H
  have hn := hC.1
  obtain ⟨⟨x, hx, rfl⟩, gw, gd, gr⟩ := hG
  have h2 : w 2 = nI x := hH.2.2.1
  have hx8 : x < 256 := Nat.lt_of_lt_of_le hx (p8 hn)
  have bnd : ∀ v, v ≤ 8 → mxo (dpt bd x) 255 v ≤ 8 := fun v hv => (mxo_iff _ _ 8 v).mpr (fun c hc _ => dpt_le (by omega))
  obtain ⟨r, er, hr⟩ := s_fillD hC hx fd
  have e6 : ∃ q, fl_X1_deepest_9 300 bd (nI x) r (0 : Int32) (0 : Int32) = some q ∧ q.1 = nI (mxo (dpt bd x) 255 8) :=
    lp (fun m s v => fl_X1_deepest_9 m bd (nI x) r s (nI v)) 8 (fun v s => s = nI (mxo (dpt bd x) 255 v)) _
      (fun m s h => ⟨(s, r), by
        show fl_X1_deepest_9 (m + 1) bd (nI x) r s (nI 8) = some (s, r)
        rw [fl_X1_deepest_9, if_pos (by decide)], h⟩)
      (fun m s v hv h => by
        right
        subst h
        refine ⟨_, rfl, ?_⟩
        show fl_X1_deepest_9 (m + 1) bd (nI x) r (nI (mxo (dpt bd x) 255 v)) (nI v) = fl_X1_deepest_9 m bd (nI x) r (nI (if Nat.testBit 255 v then (if mxo (dpt bd x) 255 v < dpt bd x v then dpt bd x v else mxo (dpt bd x) 255 v) else mxo (dpt bd x) 255 v)) (nI (v + 1))
        have hb := bnd v (by omega)
        have hd8 := dpt_le (bd := bd) (x := x) hv
        rw [fl_X1_deepest_9, if_neg (kb8 hv), if_neg (nI_in hv (by decide)), nI_clamp (by omega), hr v hv, kb_255 v hv, if_pos rfl, nI_1]
        by_cases hl : mxo (dpt bd x) 255 v < dpt bd x v
        · rw [if_pos hl, if_pos (nI_lt hl (by omega))]
        · rw [if_neg hl, if_neg (nI_nlt (by omega) (by omega))])
      8 300 0 0 (by omega) (by omega) rfl
  obtain ⟨q1, e1, a1⟩ := e6
  have outer : ∀ m fuel c (row : Nat → Int32), c + m = n → m < fuel → (∀ d, d < c → row d = nI (dpt bd x d)) → ∃ q, fl_X7_deep_9 fuel w row (nI (mxo (dpt bd x) 255 c)) (nI c) = some q ∧ q.1 = nI (mxo (dpt bd x) 255 n) := by
    intro m
    induction m with
    | zero =>
      intro fuel c row hc hfu _
      obtain ⟨g, rfl⟩ : ∃ g, fuel = g + 1 := ⟨fuel - 1, by omega⟩
      have e : c = n := by omega
      subst e
      rw [fl_X7_deep_9, hW.1, if_pos (Int32.le_refl _)]
      exact ⟨_, rfl, rfl⟩
    | succ m ih =>
      intro fuel c row hc hfu hrow
      obtain ⟨g, rfl⟩ : ∃ g, fuel = g + 1 := ⟨fuel - 1, by omega⟩
      have ix : ¬ (nI c < 0 ∨ 79 ≤ (nI c).toNatClampNeg) := nI_in (by omega) (by decide)
      have cl : (nI c).toNatClampNeg = c := nI_clamp (by omega)
      have hb := bnd c (by omega)
      have hd8 := dpt_le (bd := bd) (x := x) (show c < 8 by omega)
      have mx1 : mxo (dpt bd x) 255 (c + 1) = if mxo (dpt bd x) 255 c < dpt bd x c then dpt bd x c else mxo (dpt bd x) 255 c := by
        show (if Nat.testBit 255 c then _ else _) = _
        rw [kb_255 c (by omega), if_pos rfl]
      -- what comes behind one clause
      have fin : ∀ (row' : Nat → Int32), (∀ d, d < c → row' d = nI (dpt bd x d)) → row' c = nI (dpt bd x c) → ∃ q, (if row' c ≤ nI (mxo (dpt bd x) 255 c) then fl_X7_deep_9 g w row' (nI (mxo (dpt bd x) 255 c)) (nI c + 1) else fl_X7_deep_9 g w row' (row' c) (nI c + 1)) = some q ∧ q.1 = nI (mxo (dpt bd x) 255 n) := by
        intro row' h1 h3
        have hall : ∀ d, d < c + 1 → row' d = nI (dpt bd x d) := by
          intro d hd'
          by_cases e : d = c
          · subst e; exact h3
          · exact h1 d (by omega)
        have key := ih g (c + 1) row' (by omega) (by omega) hall
        rw [mx1] at key
        rw [h3, nI_1]
        by_cases hl : mxo (dpt bd x) 255 c < dpt bd x c
        · rw [if_pos hl] at key
          rw [if_neg (nI_ge hl (by omega))]
          exact key
        · rw [if_neg hl] at key
          rw [if_pos (nI_le (by omega) (by omega))]
          exact key
      rw [fl_X7_deep_9, hW.1, if_neg (nI_ge (by omega) (by omega)), h2]
      simp only [if_neg ix]
      rw [cl]
      cases ht : x.testBit c
      · rw [if_pos (h7f hx8 (by omega) ht)]
        refine fin (upd row c 0) (fun d hd' => (upd_ne (by omega)).trans (hrow d hd')) ?_
        rw [upd_eq, dpt_0 ht]
        rfl
      · rw [if_neg (h7t hx8 (by omega) ht)]
        obtain ⟨-, -, ⟨b, hbb, eb⟩, -⟩ := hC.2 c (by omega)
        have w22 : w (22 + c) = nI b := (hW.2 c (by omega)).2.2.1.trans eb
        have b8 : b < 256 := Nat.lt_of_lt_of_le hbb (p8 (show c ≤ 8 by omega))
        have vbb : vb bd x c = b &&& x := by
          have h8 : b &&& x < 2 ^ n := Nat.lt_of_le_of_lt Nat.and_le_right hx
          have p := p8 hn
          unfold vb
          rw [eb, kb_and, nI_clamp (by omega)]
        have dval : dpt bd x c = mxo (dpt bd x) b c + 1 := by
          rw [dpt_1 hC hx (by omega) ht, vbb, mxo_and (fun d hd' => dpt_0 hd') 8, Nat.add_comm]
          have hcut := mxo_cut (f := dpt bd x) hbb (8 - c)
          rw [show c + (8 - c) = 8 by omega] at hcut
          rw [hcut]
        refine lp (fun m (rw' : Nat → Int32) v => fl_X7_deep_39 (fl_X7_deep_9 g) m w rw' (nI (mxo (dpt bd x) 255 c)) (nI c) (nI v)) c (fun v rw' => (∀ d, d < c → rw' d = nI (dpt bd x d)) ∧ rw' c = nI (mxo (dpt bd x) b v)) _ ?_ ?_ c 300 (upd row c 0) 0 (by omega) (by omega) ⟨fun d hd' => (upd_ne (by omega)).trans (hrow d hd'), upd_eq⟩
        · intro m rw' ⟨g1, g2⟩
          show ∃ q, fl_X7_deep_39 (fl_X7_deep_9 g) (m + 1) w rw' (nI (mxo (dpt bd x) 255 c)) (nI c) (nI c) = some q ∧ _
          rw [fl_X7_deep_39, if_pos (Int32.le_refl _)]
          simp only [if_neg ix]
          rw [cl]
          refine fin (upd rw' c (rw' c + 1)) (fun d hd' => (upd_ne (by omega)).trans (g1 d hd')) ?_
          rw [upd_eq, g2, nI_1, dval]
        · intro m rw' v hv ⟨g1, g2⟩
          right
          show ∃ s', ((∀ d, d < c → s' d = nI (dpt bd x d)) ∧ s' c = nI (if b.testBit v then (if mxo (dpt bd x) b v < dpt bd x v then dpt bd x v else mxo (dpt bd x) b v) else mxo (dpt bd x) b v)) ∧ fl_X7_deep_39 (fl_X7_deep_9 g) (m + 1) w rw' (nI (mxo (dpt bd x) 255 c)) (nI c) (nI v) = fl_X7_deep_39 (fl_X7_deep_9 g) m w s' (nI (mxo (dpt bd x) 255 c)) (nI c) (nI (v + 1))
          have iy : ¬ (nI v < 0 ∨ 79 ≤ (nI v).toNatClampNeg) := nI_in (by omega) (by decide)
          have bm : mxo (dpt bd x) b v ≤ 8 := (mxo_iff _ _ 8 v).mpr (fun e he _ => dpt_le (by omega))
          have bv := dpt_le (bd := bd) (x := x) (show v < 8 by omega)
          rw [fl_X7_deep_39, if_neg (nI_ge hv (by omega)), c22, if_neg (nI_in (by omega) (by decide)), nI_clamp (n := 22 + c) (by omega), w22]
          simp only [if_neg ix, if_neg iy]
          rw [cl, nI_clamp (n := v) (by omega), g1 v hv, g2, nI_1]
          cases hbt : b.testBit v
          · rw [if_pos (h7f b8 (by omega) hbt), if_neg (by decide)]
            exact ⟨_, ⟨fun d hd' => (upd_ne (by omega)).trans (g1 d hd'), upd_eq⟩, rfl⟩
          · rw [if_neg (h7t b8 (by omega) hbt), if_pos rfl]
            by_cases hl : mxo (dpt bd x) b v < dpt bd x v
            · rw [if_neg (nI_ge hl (by omega)), if_pos hl]
              exact ⟨_, ⟨fun d hd' => (upd_ne (by omega)).trans (g1 d hd'), upd_eq⟩, rfl⟩
            · rw [if_pos (nI_le (by omega) (by omega)), if_neg hl]
              exact ⟨_, ⟨fun d hd' => (upd_ne (by omega)).trans (g1 d hd'), upd_eq⟩, rfl⟩
  obtain ⟨q2, e2, a2⟩ := outer n 300 0 tr (by omega) (by omega) (fun d hd' => absurd hd' (by omega))
  have e2' : f_X7_deep w tr = some q2 := e2
  unfold f_X6_deep f_X1_deepest
  rw [er]
  dsimp only
  rw [e1, e2']
  refine ⟨_, _, rfl, rfl, ?_⟩
  dsimp only
  have hall := mxo_all (bd := bd) hx (8 - n)
  rw [show n + (8 - n) = 8 by omega] at hall
  rw [a1, a2, hall]
/-! what is needed, as a closed set -/
theorem nd_sub (v : Nat → Nat) : ∀ k a j, a.testBit j = true → (nd v k a).testBit j = true
  | 0, a, j, h => h
  | k + 1, a, j, h => by
    show (nd v k (if a.testBit k then a ||| v k else a)).testBit j = true
    refine nd_sub v k _ j ?_
    split
    · rw [Nat.testBit_or, h, Bool.true_or]
    · exact h
theorem nd_min {v : Nat → Nat} {n : Nat} (hv : ∀ k, k < n → v k < 2 ^ n) (C : Nat → Prop) (hC : ∀ k, k < n → C k → ∀ j, (v k).testBit j = true → C j) : ∀ k a, a < 2 ^ n → (∀ j, a.testBit j = true → C j) → ∀ j, (nd v k a).testBit j = true → C j
  | 0, a, _, h => h
  | k + 1, a, ha, h => by
    show ∀ j, (nd v k (if a.testBit k then a ||| v k else a)).testBit j = true → C j
    by_cases hb : a.testBit k = true
    · rw [if_pos hb]
      have hkn : k < n := by
        by_cases hh : k < n
        · exact hh
        · rw [tb_f ha (by omega)] at hb
          exact absurd hb (by decide)
      refine nd_min hv C hC k _ (Nat.or_lt_two_pow ha (hv k hkn)) (fun j hj => ?_)
      rw [Nat.testBit_or, Bool.or_eq_true] at hj
      rcases hj with hj | hj
      · exact h j hj
      · exact hC k hkn (h k hb) j hj
    · rw [if_neg hb]
      exact nd_min hv C hC k a ha h
theorem nd_clo {v : Nat → Nat} {n : Nat} (hv : ∀ k, k < n → v k < 2 ^ n ∧ v k < 2 ^ k) : ∀ k a, a < 2 ^ n → (∀ i, k ≤ i → i < n → a.testBit i = true → ∀ j, (v i).testBit j = true → a.testBit j = true) → ∀ i, i < n → (nd v k a).testBit i = true → ∀ j, (v i).testBit j = true → (nd v k a).testBit j = true
  | 0, a, _, h => fun i hi => h i (by omega) hi
  | k + 1, a, ha, h => by
    show ∀ i, i < n → (nd v k (if a.testBit k then a ||| v k else a)).testBit i = true → ∀ j, (v i).testBit j = true → (nd v k (if a.testBit k then a ||| v k else a)).testBit j = true
    by_cases hb : a.testBit k = true
    · rw [if_pos hb]
      have hkn : k < n := by
        by_cases hh : k < n
        · exact hh
        · rw [tb_f ha (by omega)] at hb
          exact absurd hb (by decide)
      refine nd_clo hv k _ (Nat.or_lt_two_pow ha (hv k hkn).1) (fun i hi hin hti j hj => ?_)
      rw [Nat.testBit_or, Bool.or_eq_true] at hti ⊢
      have hti2 : a.testBit i = true := by
        rcases hti with hti | hti
        · exact hti
        · rw [tb_f (hv k hkn).2 hi] at hti
          exact absurd hti (by decide)
      by_cases e : i = k
      · subst e; exact Or.inr hj
      · exact Or.inl (h i (by omega) hin hti2 j hj)
    · rw [if_neg hb]
      refine nd_clo hv k a ha (fun i hi hin hti j hj => ?_)
      by_cases e : i = k
      · subst e; exact absurd hti hb
      · exact h i (by omega) hin hti j hj
theorem two_tb {c j : Nat} : (2 ^ c).testBit j = true ↔ c = j := by
  rw [Nat.testBit_two_pow, decide_eq_true_eq]
/-- all that must be undone until c is: what P says holds of each -/
def OKp (v : Nat → Nat) (P : Nat → Prop) (c : Nat) : Prop := ∀ e, (nd v 8 (2 ^ c)).testBit e = true → P e
theorem OKp_iff {v : Nat → Nat} {n : Nat} (hn : n ≤ 8) (hv : ∀ k, k < n → v k < 2 ^ n ∧ v k < 2 ^ k) (P : Nat → Prop) {c : Nat} (hc : c < n) : OKp v P c ↔ P c ∧ ∀ j, (v c).testBit j = true → OKp v P j := by
  have lt2 : ∀ j, j < n → 2 ^ j < 2 ^ n := fun j hj => Nat.pow_lt_pow_right (by omega) hj
  have self : ∀ j, (nd v 8 (2 ^ j)).testBit j = true := fun j => nd_sub v 8 _ j (two_tb.mpr rfl)
  have clo : ∀ j, j < n → ∀ i, i < n → (nd v 8 (2 ^ j)).testBit i = true → ∀ e, (v i).testBit e = true → (nd v 8 (2 ^ j)).testBit e = true := fun j hj => nd_clo hv 8 (2 ^ j) (lt2 j hj) (fun i hi hin => absurd hin (by omega))
  have inn : ∀ j, (v c).testBit j = true → j < n := by
    intro j hj
    by_cases hh : j < n
    · exact hh
    · rw [tb_f (hv c hc).1 (by omega)] at hj
      exact absurd hj (by decide)
  constructor
  · intro h
    refine ⟨h c (self c), fun j hj e he => h e ?_⟩
    exact nd_min (fun k hk => (hv k hk).1) (fun e => (nd v 8 (2 ^ c)).testBit e = true) (fun k hk hk2 i hi => clo c hc k hk hk2 i hi) 8 (2 ^ j) (lt2 j (inn j hj)) (fun i hi => by
      rw [two_tb] at hi
      subst hi
      exact clo c hc c hc (self c) j hj) e he
  · rintro ⟨h1, h2⟩ e he
    have key := nd_min (fun k hk => (hv k hk).1) (fun e => e = c ∨ ∃ j, (v c).testBit j = true ∧ (nd v 8 (2 ^ j)).testBit e = true) (fun k hk hk2 i hi => by
      rcases hk2 with hk2 | ⟨j, hj, hk2⟩
      · subst hk2
        exact Or.inr ⟨i, hi, self i⟩
      · exact Or.inr ⟨j, hj, clo j (inn j hj) k hk hk2 i hi⟩) 8 (2 ^ c) (lt2 c hc) (fun i hi => Or.inl (two_tb.mp hi).symm) e he
    rcases key with key | ⟨j, hj, key⟩
    · subst key; exact h1
    · exact h2 j hj e key
theorem s_firmest {n : Nat} {kd hd bd pt : Nat → Int32} (hC : KC n kd hd bd pt) {x : Nat} (hx : x < 2 ^ n) (wet day : Int32) {c : Nat} (hc : c < n) (hxc : x.testBit c = true) : ∃ R, R < 2 ^ 31 ∧ f_X4_firmestUpTo kd hd bd (nI x) wet day (nI c) = some (nI R) ∧ ∀ f, f < 2 ^ 31 → (R ≤ f ↔ OKp (vb bd x) (fun e => ¬ nI f < f_X4_firmBy wet (kd e) (hd e) day) c) := by
  have hn := hC.1
  have h2c : 2 ^ c &&& x = 2 ^ c := by
    apply Nat.eq_of_testBit_eq
    intro i
    rw [Nat.testBit_and, Nat.testBit_two_pow]
    by_cases e : c = i
    · subst e; rw [hxc, Bool.and_true]
    · rw [decide_eq_false e, Bool.false_and]
  have hl : nd (vb bd x) 8 (2 ^ c) < 2 ^ n := nd_lt (fun k hk => (vb_eq hC hx hk).2.1) 8 _ (Nat.pow_lt_pow_right (by omega) hc)
  have hl8 : nd (vb bd x) 8 (2 ^ c) < 256 := Nat.lt_of_lt_of_le hl (p8 hn)
  obtain ⟨r, er, hr0, hr⟩ := lp (fun m s v => fl_X4_firmestUpTo_13 m kd hd bd (nI x) wet day (nI (nd (vb bd x) 8 (2 ^ c))) s (nI v)) 8 (fun v s => ¬ s < 0 ∧ ∀ f : Int32, ¬ f < 0 → (¬ f < s ↔ ∀ e, e < v → (nd (vb bd x) 8 (2 ^ c)).testBit e = true → ¬ f < f_X4_firmBy wet (kd e) (hd e) day)) (fun r => ¬ r < 0 ∧ ∀ f : Int32, ¬ f < 0 → (¬ f < r ↔ ∀ e, e < 8 → (nd (vb bd x) 8 (2 ^ c)).testBit e = true → ¬ f < f_X4_firmBy wet (kd e) (hd e) day))
    (fun m s h => ⟨s, by
      show fl_X4_firmestUpTo_13 (m + 1) kd hd bd (nI x) wet day _ s (nI 8) = some s
      rw [fl_X4_firmestUpTo_13, if_pos (by decide)], h⟩)
    (fun m s v hv ⟨h1, h2⟩ => by
      right
      show ∃ s', (¬ s' < 0 ∧ ∀ f : Int32, ¬ f < 0 → (¬ f < s' ↔ ∀ e, e < v + 1 → (nd (vb bd x) 8 (2 ^ c)).testBit e = true → ¬ f < f_X4_firmBy wet (kd e) (hd e) day)) ∧ fl_X4_firmestUpTo_13 (m + 1) kd hd bd (nI x) wet day _ s (nI v) = fl_X4_firmestUpTo_13 m kd hd bd (nI x) wet day _ s' (nI (v + 1))
      rw [fl_X4_firmestUpTo_13, if_neg (kb8 hv), s_firm6 kd hd wet day hv, nI_1]
      dsimp only
      cases ht : (nd (vb bd x) 8 (2 ^ c)).testBit v
      · rw [if_pos (h6f hl8 hv ht)]
        refine ⟨s, ⟨h1, fun f hf => ?_⟩, rfl⟩
        rw [h2 f hf]
        constructor
        · intro h e he hte
          by_cases ee : e = v
          · subst ee; rw [ht] at hte; exact absurd hte (by decide)
          · exact h e (by omega) hte
        · intro h e he hte
          exact h e (by omega) hte
      · rw [if_neg (h6t hl8 hv ht)]
        refine ⟨_, ⟨?_, fun f hf => ?_⟩, rfl⟩
        · split
          · rename_i hlt
            intro hq
            apply h1
            rw [Int32.lt_iff_toInt_lt] at *
            omega
          · exact h1
        · have h3 := h2 f hf
          have h4 : (¬ f < (if s < f_X4_firmBy wet (kd v) (hd v) day then f_X4_firmBy wet (kd v) (hd v) day else s)) ↔ (¬ f < s ∧ ¬ f < f_X4_firmBy wet (kd v) (hd v) day) := by
            split
            · rename_i hlt
              rw [Int32.lt_iff_toInt_lt] at *
              rw [Int32.lt_iff_toInt_lt]
              omega
            · rename_i hlt
              rw [Int32.lt_iff_toInt_lt] at *
              rw [Int32.lt_iff_toInt_lt]
              omega
          rw [h4, h3]
          constructor
          · rintro ⟨ha, hb⟩ e he hte
            by_cases ee : e = v
            · subst ee; exact hb
            · exact ha e (by omega) hte
          · intro h
            exact ⟨fun e he hte => h e (by omega) hte, h v (by omega) ht⟩)
    8 300 0 0 (by omega) (by omega) ⟨by decide, fun f hf => ⟨fun _ e he => absurd he (by omega), fun _ => hf⟩⟩
  obtain ⟨R, hR, rfl⟩ := nI_of hr0
  refine ⟨R, hR, ?_, ?_⟩
  · unfold f_X4_firmestUpTo
    rw [kb_bt c (by omega), s_needs6 hC hx, h2c]
    exact er
  · intro f hf
    have h3 := hr (nI f) (nI_pos hf)
    rw [nI_ltI hf hR, Nat.not_lt] at h3
    rw [h3]
    constructor
    · intro h e hte
      refine h e ?_ hte
      by_cases hh : e < 8
      · exact hh
      · rw [tb_f hl (by omega)] at hte
        exact absurd hte (by decide)
    · intro h e _ hte
      exact h e hte
/-- what is left after k pulls -/
noncomputable def Xs (kd hd bd : Nat → Int32) (wet day f : Int32) (x : Nat) : Nat → Nat
  | 0 => x
  | k + 1 => sd (Xs kd hd bd wet day f x k) (fallN kd hd bd wet day (Xs kd hd bd wet day f x k) f)
theorem Xs_sub {kd hd bd : Nat → Int32} {wet day f : Int32} {x : Nat} : ∀ k j, (Xs kd hd bd wet day f x k).testBit j = true → x.testBit j = true
  | 0, j, h => h
  | k + 1, j, h => by
    have h1 : (Xs kd hd bd wet day f x k).testBit j = true := by
      have h2 : (sd (Xs kd hd bd wet day f x k) (fallN kd hd bd wet day (Xs kd hd bd wet day f x k) f)).testBit j = true := h
      unfold sd at h2
      rw [Nat.testBit_and, Bool.and_eq_true] at h2
      exact h2.1
    exact Xs_sub k j h1
theorem Xs_lt {kd hd bd : Nat → Int32} {wet day f : Int32} {x n : Nat} (hx : x < 2 ^ n) : ∀ k, Xs kd hd bd wet day f x k < 2 ^ n
  | 0 => hx
  | k + 1 => sd_lt (Xs_lt hx k)
theorem Xs_iff {n : Nat} {kd hd bd pt : Nat → Int32} (hC : KC n kd hd bd pt) {x : Nat} (hx : x < 2 ^ n) (wet day f : Int32) : ∀ k d, d < n → x.testBit d = true → ((Xs kd hd bd wet day f x k).testBit d = false ↔ (OKp (vb bd x) (fun e => ¬ f < f_X4_firmBy wet (kd e) (hd e) day) d ∧ dpt bd x d ≤ k)) := by
  have hn := hC.1
  have hv : ∀ k, k < n → vb bd x k < 2 ^ n ∧ vb bd x k < 2 ^ k := fun k hk => (vb_eq hC hx hk).2
  intro k
  induction k with
  | zero =>
    intro d hd' ht
    constructor
    · intro h
      have h' : x.testBit d = false := h
      rw [ht] at h'
      exact absurd h' (by decide)
    · rintro ⟨-, h⟩
      rw [dpt_1 hC hx hd' ht] at h
      omega
  | succ k ih =>
    intro d hd' ht
    have hX := Xs_lt (kd := kd) (hd := hd) (bd := bd) (wet := wet) (day := day) (f := f) hx k
    have hX8 : Xs kd hd bd wet day f x k < 256 := Nat.lt_of_lt_of_le hX (p8 hn)
    have inx : ∀ j, (vb bd x d).testBit j = true → j < n ∧ x.testBit j = true := by
      intro j hj
      obtain ⟨-, -, ⟨b, hb, eb⟩, -⟩ := hC.2 d hd'
      have h8 : b &&& x < 2 ^ n := Nat.lt_of_le_of_lt Nat.and_le_right hx
      have p := p8 hn
      have e : vb bd x d = b &&& x := by
        unfold vb
        rw [eb, kb_and, nI_clamp (by omega)]
      rw [e, Nat.testBit_and, Bool.and_eq_true] at hj
      refine ⟨?_, hj.2⟩
      by_cases hh : j < n
      · exact hh
      · have := hj.2
        rw [tb_f hx (by omega)] at this
        exact absurd this (by decide)
    -- free in what is left
    have free : pfree bd (Xs kd hd bd wet day f x k) d = true ↔ (Xs kd hd bd wet day f x k).testBit d = true ∧ ∀ j, (vb bd x d).testBit j = true → (Xs kd hd bd wet day f x k).testBit j = false := by
      unfold pfree
      rw [Bool.and_eq_true, decide_eq_true_eq]
      obtain ⟨-, -, ⟨b, hb, eb⟩, -⟩ := hC.2 d hd'
      have h8 : b &&& x < 2 ^ n := Nat.lt_of_le_of_lt Nat.and_le_right hx
      have p := p8 hn
      have e : vb bd x d = b &&& x := by
        unfold vb
        rw [eb, kb_and, nI_clamp (by omega)]
      rw [eb, kb_and, e]
      have h9 : b &&& Xs kd hd bd wet day f x k < 2 ^ 31 := Nat.lt_of_le_of_lt Nat.and_le_right (by omega)
      have h10 : nI (b &&& Xs kd hd bd wet day f x k) = 0 ↔ b &&& Xs kd hd bd wet day f x k = 0 := nI_eq (b := 0) h9 (by omega)
      rw [h10]
      constructor
      · rintro ⟨h1, h3⟩
        refine ⟨h1, fun j hj => ?_⟩
        rw [Nat.testBit_and, Bool.and_eq_true] at hj
        have h4 : (b &&& Xs kd hd bd wet day f x k).testBit j = false := by rw [h3, Nat.zero_testBit]
        rw [Nat.testBit_and, hj.1, Bool.true_and] at h4
        exact h4
      · rintro ⟨h1, h3⟩
        refine ⟨h1, Nat.eq_of_testBit_eq (fun j => ?_)⟩
        rw [Nat.zero_testBit, Nat.testBit_and]
        cases hbj : b.testBit j
        · rfl
        · rw [Bool.true_and]
          cases hxj : (Xs kd hd bd wet day f x k).testBit j
          · rfl
          · have hh := h3 j (by rw [Nat.testBit_and, hbj, Xs_sub k j hxj]; rfl)
            rw [hh] at hxj
            exact absurd hxj (by decide)
    have st : (Xs kd hd bd wet day f x (k + 1)).testBit d = false ↔ ((Xs kd hd bd wet day f x k).testBit d = false ∨ (pfree bd (Xs kd hd bd wet day f x k) d = true ∧ ¬ f < f_X4_firmBy wet (kd d) (hd d) day)) := by
      show (sd (Xs kd hd bd wet day f x k) (fallN kd hd bd wet day (Xs kd hd bd wet day f x k) f)).testBit d = false ↔ _
      rw [sd_tb (by omega)]
      unfold fallN
      rw [ng_tb, decide_eq_true (show d < 8 by omega), Bool.true_and]
      cases hb : (Xs kd hd bd wet day f x k).testBit d
      · rw [Bool.false_and]
        exact ⟨fun _ => Or.inl rfl, fun _ => rfl⟩
      · rw [Bool.true_and, Bool.not_eq_false', Bool.and_eq_true, decide_eq_true_eq]
        exact ⟨fun h => Or.inr h, fun h => h.resolve_left (by decide)⟩
    rw [st, free, ih d hd' ht, OKp_iff hn hv _ hd', dpt_1 hC hx hd' ht]
    have mx : ∀ B, mxo (dpt bd x) (vb bd x d) 8 ≤ B ↔ ∀ j, (vb bd x d).testBit j = true → dpt bd x j ≤ B := by
      intro B
      rw [mxo_iff]
      exact ⟨fun h j hj => h j (by have := (inx j hj).1; omega) hj, fun h j _ hj => h j hj⟩
    constructor
    · rintro (⟨⟨h1, h3⟩, h4⟩ | ⟨⟨h1, h3⟩, h4⟩)
      · exact ⟨⟨h1, h3⟩, by omega⟩
      · have h5 : ∀ j, (vb bd x d).testBit j = true → OKp (vb bd x) (fun e => ¬ f < f_X4_firmBy wet (kd e) (hd e) day) j ∧ dpt bd x j ≤ k := fun j hj => (ih j (inx j hj).1 (inx j hj).2).mp (h3 j hj)
        have h6 := (mx k).mpr (fun j hj => (h5 j hj).2)
        exact ⟨⟨h4, fun j hj => (h5 j hj).1⟩, by omega⟩
    · rintro ⟨⟨h1, h3⟩, h4⟩
      have h6 := (mx k).mp (by omega)
      by_cases hb : (Xs kd hd bd wet day f x k).testBit d = true
      · exact Or.inr ⟨⟨hb, fun j hj => (ih j (inx j hj).1 (inx j hj).2).mpr ⟨h3 j hj, h6 j hj⟩⟩, h1⟩
      · left
        have hb' : (Xs kd hd bd wet day f x k).testBit d = false := by
          cases h : (Xs kd hd bd wet day f x k).testBit d
          · rfl
          · exact absurd h hb
        have h7 := (ih d hd' ht).mp hb'
        rw [OKp_iff hn hv _ hd', dpt_1 hC hx hd' ht] at h7
        exact h7
/-- the reference's row, pulled k times -/
theorem Xs_pull {n : Nat} {kd hd bd pt u : Nat → Int32} (hC : KC n kd hd bd pt) {x : Nat} (hx : x < 2 ^ n) {wet day : Int32} (f : Int32) {k : Nat} (hW : KW n kd hd bd pt u) (u2 : u 2 = nI (Xs kd hd bd wet day f x k)) (u3 : u 3 = wet) (u0 : u 0 = day) : ∃ b u', f_X7_pullIn_1 u f = some (b, u') ∧ KW n kd hd bd pt u' ∧ u' 2 = nI (Xs kd hd bd wet day f x (k + 1)) ∧ u' 3 = wet ∧ u' 0 = day := by
  have e := s_pullIn hC hW (Xs_lt hx k) u2 f
  rw [u3, u0] at e
  rw [e_pull1, e]
  exact ⟨_, _, rfl, KW_of hC.1 hW (fun i h1 h2 => upd_ne (by omega)), upd_eq, (upd_ne (by omega)).trans u3, (upd_ne (by omega)).trans u0⟩
theorem ko_pulls {kd hd bd pt pn w : Nat → Int32} {sz ps t wars wet day drawn : Int32} (H : KR kd hd bd pt sz pn ps t wars wet day drawn w) (fd tr : Nat → Int32) (a1 a2 : Int32) : ∃ q1 q2, f_X6_pulls kd hd bd sz t wet day fd a1 a2 = some q1 ∧ f_X7_pulls w tr a1 a2 = some q2 ∧ q1.1 = q2.1 := by
  obtain ⟨n, k, rfl, rfl, hC, hW, hG, hH, hP⟩ := H
  have hn := hC.1
  obtain ⟨⟨x, hx, rfl⟩, gw, gd, gr⟩ := hG
  have h2 : w 2 = nI x := hH.2.2.1
  have hx8 : x < 256 := Nat.lt_of_lt_of_le hx (p8 hn)
  unfold f_X6_pulls f_X7_pulls f_X6_isForce
  rw [kb_in7]
  rcases s_isCl hn hW.1 a1 with ⟨y1, y2⟩ | ⟨c, hc, rfl, y1, y2⟩
  · rw [if_pos y1, if_pos y2]; exact ⟨_, _, rfl, rfl, rfl⟩
  rw [if_neg y1, if_neg y2]
  by_cases c1 : f_X6_isWithin a2 (0 : Int32) (99 : Int32) = 0
  · rw [if_pos c1, if_pos c1]; exact ⟨_, _, rfl, rfl, rfl⟩
  rw [if_neg c1, if_neg c1]
  obtain ⟨f, -, hf, rfl⟩ := kb_win (a := 0) (b := 99) (by omega) (by omega) c1
  obtain ⟨u, eu, hu⟩ := s_begin w tr
  rw [eu]
  dsimp only
  cases hxc : x.testBit c
  · rw [if_pos (h6f hx8 (by omega) hxc), fl_X7_pulls_26, if_neg (by decide), hu 2 (by omega), h2, if_pos (h7f hx8 (by omega) hxc)]
    exact ⟨_, _, rfl, rfl, rfl⟩
  rw [if_neg (h6t hx8 (by omega) hxc)]
  obtain ⟨R, hR, eR, hOK⟩ := s_firmest hC hx wet day hc hxc
  have hOKf := hOK f (by omega)
  obtain ⟨r, er, hr⟩ := s_fillD hC hx fd
  have ed : f_X1_depthOf bd (nI x) fd (nI c) = some (nI (dpt bd x c), r) := by
    unfold f_X1_depthOf
    rw [er]
    dsimp only
    rw [if_neg (nI_in (by omega) (by decide)), nI_clamp (by omega), hr c (by omega)]
  have h8 := dpt_le (bd := bd) (x := x) (show c < 8 by omega)
  obtain ⟨q, eq, hq⟩ := lp (fun m s v => fl_X7_pulls_26 m w s (nI c) (nI f) (nI v)) 21 (fun v s => KW n kd hd bd pt s ∧ s 2 = nI (Xs kd hd bd wet day (nI f) x v) ∧ s 3 = wet ∧ s 0 = day ∧ ∀ j, j < v → (Xs kd hd bd wet day (nI f) x j).testBit c = true) (fun q => (R ≤ f → q.1 = nI (dpt bd x c)) ∧ (¬ R ≤ f → q.1 = -4))
    (fun m s ⟨_, _, _, _, hj⟩ => ⟨_, by
      show fl_X7_pulls_26 (m + 1) w s (nI c) (nI f) (nI 21) = some (-4, s)
      rw [fl_X7_pulls_26, if_pos (by decide)], fun hRf => by
        have h20 := (Xs_iff hC hx wet day (nI f) 20 c hc hxc).mpr ⟨hOKf.mp hRf, by omega⟩
        rw [hj 20 (by omega)] at h20
        exact absurd h20 (by decide), fun _ => rfl⟩)
    (fun m s v hv ⟨hWs, s2, s3, s0, hj⟩ => by
      show (∃ r, fl_X7_pulls_26 (m + 1) w s (nI c) (nI f) (nI v) = some r ∧ _) ∨ ∃ s', _ ∧ fl_X7_pulls_26 (m + 1) w s (nI c) (nI f) (nI v) = fl_X7_pulls_26 m w s' (nI c) (nI f) (nI (v + 1))
      have l : ¬ (20 : Int32) < nI v := nI_nlt (a := 20) (by omega) (by omega)
      have hX8 : Xs kd hd bd wet day (nI f) x v < 256 := Nat.lt_of_lt_of_le (Xs_lt hx v) (p8 hn)
      have hiff := Xs_iff hC hx wet day (nI f) v c hc hxc
      obtain ⟨b, u', e, hW', u2', u3', u0'⟩ := Xs_pull hC hx (nI f) hWs s2 s3 s0
      rw [fl_X7_pulls_26, if_neg l, s2, e, nI_1]
      dsimp only
      cases hb : (Xs kd hd bd wet day (nI f) x v).testBit c
      · left
        rw [if_pos (h7f hX8 (by omega) hb)]
        have hok := hiff.mp hb
        refine ⟨_, rfl, fun _ => ?_, fun hno => absurd (hOKf.mpr hok.1) hno⟩
        show nI v = nI (dpt bd x c)
        congr 1
        by_cases hlt : dpt bd x c < v
        · have h3 := (Xs_iff hC hx wet day (nI f) (dpt bd x c) c hc hxc).mpr ⟨hok.1, by omega⟩
          rw [hj _ hlt] at h3
          exact absurd h3 (by decide)
        · have := hok.2
          omega
      · right
        rw [if_neg (h7t hX8 (by omega) hb)]
        refine ⟨u', ⟨hW', u2', u3', u0', fun j hj2 => ?_⟩, rfl⟩
        by_cases ee : j = v
        · subst ee; exact hb
        · exact hj j (by omega))
    21 300 u 0 (by omega) (by omega) ⟨KW_of hn hW (fun i h1 h2 => hu i (by omega)), (hu 2 (by omega)).trans h2, (hu 3 (by omega)).trans hH.2.2.2.1, (hu 0 (by omega)).trans hH.1, fun j hj => absurd hj (by omega)⟩
  have eq' : fl_X7_pulls_26 300 w u (nI c) (nI f) (0 : Int32) = some q := eq
  rw [eR, ed, eq']
  dsimp only
  by_cases hRf : R ≤ f
  · rw [if_neg (nI_nlt hRf (by omega))]
    exact ⟨_, _, rfl, rfl, (hq.1 hRf).symm⟩
  · rw [if_pos (nI_lt (by omega) hR)]
    exact ⟨_, _, rfl, rfl, (hq.2 hRf).symm⟩
theorem ko_force {kd hd bd pt pn w : Nat → Int32} {sz ps t wars wet day drawn : Int32} (H : KR kd hd bd pt sz pn ps t wars wet day drawn w) (fd tr : Nat → Int32) (a1 a2 : Int32) : ∃ q1 q2, f_X6_force kd hd bd sz t wet day fd a1 a2 = some q1 ∧ f_X7_force w tr a1 a2 = some q2 ∧ q1.1 = q2.1 := by
  obtain ⟨n, k, rfl, rfl, hC, hW, hG, hH, hP⟩ := H
  have hn := hC.1
  obtain ⟨⟨x, hx, rfl⟩, gw, gd, gr⟩ := hG
  have h2 : w 2 = nI x := hH.2.2.1
  have hx8 : x < 256 := Nat.lt_of_lt_of_le hx (p8 hn)
  unfold f_X6_force f_X7_force
  rw [kb_in7]
  rcases s_isCl hn hW.1 a1 with ⟨y1, y2⟩ | ⟨c, hc, rfl, y1, y2⟩
  · rw [if_pos y1, if_pos y2]; exact ⟨_, _, rfl, rfl, rfl⟩
  rw [if_neg y1, if_neg y2]
  by_cases c1 : f_X6_isWithin a2 (1 : Int32) (8 : Int32) = 0
  · rw [if_pos c1, if_pos c1]; exact ⟨_, _, rfl, rfl, rfl⟩
  rw [if_neg c1, if_neg c1]
  obtain ⟨N, -, hN, rfl⟩ := kb_win (a := 1) (b := 8) (by omega) (by omega) c1
  -- the reference's inner loop
  have inner : ∀ (ko : (Nat → Int32) → (Nat → Int32) → Int32 → Int32 → Int32 → Option (Int32 × (Nat → Int32))) (f : Nat) (u : Nat → Int32), KW n kd hd bd pt u → u 2 = nI x → u 3 = wet → u 0 = day → ∃ u', fl_X7_force_35 ko 300 w u (nI c) (nI N) (nI f) (0 : Int32) = (if (Xs kd hd bd wet day (nI f) x N).testBit c = true then ko w u' (nI c) (nI N) (nI f + 1) else some (nI f, u')) := by
    intro ko f u hWu u2 u3 u0
    have go : ∀ m fuel v (u : Nat → Int32), v + m = N → m < fuel → KW n kd hd bd pt u → u 2 = nI (Xs kd hd bd wet day (nI f) x v) → u 3 = wet → u 0 = day → ∃ u', fl_X7_force_35 ko fuel w u (nI c) (nI N) (nI f) (nI v) = (if (Xs kd hd bd wet day (nI f) x N).testBit c = true then ko w u' (nI c) (nI N) (nI f + 1) else some (nI f, u')) := by
      intro m
      induction m with
      | zero =>
        intro fuel v u hv hfu hWu u2 _ _
        obtain ⟨g, rfl⟩ : ∃ g, fuel = g + 1 := ⟨fuel - 1, by omega⟩
        have e : v = N := by omega
        subst e
        have hX8 : Xs kd hd bd wet day (nI f) x v < 256 := Nat.lt_of_lt_of_le (Xs_lt hx v) (p8 hn)
        refine ⟨u, ?_⟩
        rw [fl_X7_force_35, if_pos (Int32.le_refl _), u2]
        cases hb : (Xs kd hd bd wet day (nI f) x v).testBit c
        · rw [if_pos (h7f hX8 (by omega) hb), if_neg (by decide)]
        · rw [if_neg (h7t hX8 (by omega) hb), if_pos rfl]
      | succ m ih =>
        intro fuel v u hv hfu hWu u2 u3 u0
        obtain ⟨g, rfl⟩ : ∃ g, fuel = g + 1 := ⟨fuel - 1, by omega⟩
        obtain ⟨b, u', e, hW', u2', u3', u0'⟩ := Xs_pull hC hx (nI f) hWu u2 u3 u0
        rw [fl_X7_force_35, if_neg (nI_ge (by omega) (by omega)), e, nI_1]
        exact ih g (v + 1) u' (by omega) (by omega) hW' u2' u3' u0'
    exact go N 300 0 u (by omega) (by omega) hWu u2 u3 u0
  have bgn : ∀ tr : Nat → Int32, ∃ u, f_X7_begin w tr = some u ∧ KW n kd hd bd pt u ∧ u 2 = nI x ∧ u 3 = wet ∧ u 0 = day := by
    intro tr
    obtain ⟨u, eu, hu⟩ := s_begin w tr
    exact ⟨u, eu, KW_of hn hW (fun i h1 h2 => hu i (by omega)), (hu 2 (by omega)).trans h2, (hu 3 (by omega)).trans hH.2.2.2.1, (hu 0 (by omega)).trans hH.1⟩
  cases hxc : x.testBit c
  · obtain ⟨u, eu, hWu, u2, u3, u0⟩ := bgn tr
    obtain ⟨u', eu'⟩ := inner (fl_X7_force_22 299) 0 u hWu u2 u3 u0
    have hno : ¬ (Xs kd hd bd wet day (nI 0) x N).testBit c = true := by
      intro h
      rw [Xs_sub N c h] at hxc
      exact absurd hxc (by decide)
    have eu2 : fl_X7_force_35 (fl_X7_force_22 299) 300 w u (nI c) (nI N) (0 : Int32) (0 : Int32) = _ := eu'
    rw [if_neg hno] at eu2
    rw [if_pos (h6f hx8 (by omega) hxc), fl_X7_force_22, if_neg (by decide), eu]
    dsimp only
    rw [eu2]
    exact ⟨_, _, rfl, rfl, rfl⟩
  rw [if_neg (h6t hx8 (by omega) hxc)]
  obtain ⟨R, hR, eR, hOK⟩ := s_firmest hC hx wet day hc hxc
  obtain ⟨r, er, hr⟩ := s_fillD hC hx fd
  have ed : f_X1_depthOf bd (nI x) fd (nI c) = some (nI (dpt bd x c), r) := by
    unfold f_X1_depthOf
    rw [er]
    dsimp only
    rw [if_neg (nI_in (by omega) (by decide)), nI_clamp (by omega), hr c (by omega)]
  have h8 := dpt_le (bd := bd) (x := x) (show c < 8 by omega)
  have outer : ∀ m fuel f (tr : Nat → Int32), f + m = 100 → m < fuel → (dpt bd x c ≤ N → f ≤ R) → ∃ q, fl_X7_force_22 fuel w tr (nI c) (nI N) (nI f) = some q ∧ (R ≤ 99 ∧ dpt bd x c ≤ N → q.1 = nI R) ∧ (¬ (R ≤ 99 ∧ dpt bd x c ≤ N) → q.1 = -4) := by
    intro m
    induction m with
    | zero =>
      intro fuel f tr hf hfu hinv
      obtain ⟨g, rfl⟩ : ∃ g, fuel = g + 1 := ⟨fuel - 1, by omega⟩
      have e : f = 100 := by omega
      subst e
      rw [fl_X7_force_22, if_pos (by decide)]
      refine ⟨_, rfl, fun ⟨ha, hb⟩ => ?_, fun _ => rfl⟩
      have := hinv hb
      omega
    | succ m ih =>
      intro fuel f tr hf hfu hinv
      obtain ⟨g, rfl⟩ : ∃ g, fuel = g + 1 := ⟨fuel - 1, by omega⟩
      have l : ¬ (99 : Int32) < nI f := nI_nlt (a := 99) (by omega) (by omega)
      obtain ⟨u, eu, hWu, u2, u3, u0⟩ := bgn tr
      obtain ⟨u', eu'⟩ := inner (fl_X7_force_22 g) f u hWu u2 u3 u0
      have hiff := Xs_iff hC hx wet day (nI f) N c hc hxc
      have hOKf := hOK f (by omega)
      rw [fl_X7_force_22, if_neg l, eu]
      dsimp only
      rw [eu']
      cases hb : (Xs kd hd bd wet day (nI f) x N).testBit c
      · rw [if_neg (by decide)]
        have hok := hiff.mp hb
        have hRf := hOKf.mpr hok.1
        have hfR := hinv hok.2
        refine ⟨_, rfl, fun _ => ?_, fun hno => absurd ⟨by omega, hok.2⟩ hno⟩
        show nI f = nI R
        congr 1
        omega
      · rw [if_pos rfl, nI_1]
        refine ih g (f + 1) u' (by omega) (by omega) (fun hdN => ?_)
        have hfR := hinv hdN
        by_cases e : f = R
        · subst e
          have := hiff.mpr ⟨hOKf.mp (Nat.le_refl _), hdN⟩
          rw [hb] at this
          exact absurd this (by decide)
        · omega
  obtain ⟨q, eq, hq1, hq2⟩ := outer 100 300 0 tr (by omega) (by omega) (fun _ => Nat.zero_le _)
  have eq' : fl_X7_force_22 300 w tr (nI c) (nI N) (0 : Int32) = some q := eq
  rw [eR, ed, eq']
  dsimp only
  by_cases hR99 : R ≤ 99
  · have l1 : ¬ (99 : Int32) < nI R := nI_nlt (a := 99) hR99 (by omega)
    rw [if_neg l1]
    by_cases hdN : dpt bd x c ≤ N
    · rw [if_neg (nI_nlt hdN (by omega))]
      exact ⟨_, _, rfl, rfl, (hq1 ⟨hR99, hdN⟩).symm⟩
    · rw [if_pos (nI_lt (by omega) (by omega))]
      exact ⟨_, _, rfl, rfl, (hq2 (fun h => hdN h.2)).symm⟩
  · have l1 : (99 : Int32) < nI R := nI_lt (a := 99) (by omega) hR
    rw [if_pos l1]
    exact ⟨_, _, rfl, rfl, (hq2 (fun h => hR99 h.1)).symm⟩
