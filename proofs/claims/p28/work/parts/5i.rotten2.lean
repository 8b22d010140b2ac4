/-! 5i: rotten -/
theorem ko_rotten {kd hd bd pt pn w : Nat → Int32} {sz ps t wars wet day drawn : Int32} (H : KR kd hd bd pt sz pn ps t wars wet day drawn w) (tr : Nat → Int32) (a1 a2 a3 a4 : Int32) : ∃ q1 q2, f_X6_rotten kd hd bd sz t wet day a1 a2 a3 a4 = some q1 ∧ f_X7_rotten w tr a1 a2 a3 a4 = some q2 ∧ q1 = q2.1 := by
  obtain ⟨n, k, rfl, rfl, hC, hW, hG, hH, hP⟩ := H
  have hn := hC.1
  obtain ⟨⟨x, hx, rfl⟩, gw', gd, gr⟩ := hG
  have h2 : w 2 = nI x := hH.2.2.1
  have hx8 : x < 256 := Nat.lt_of_lt_of_le hx (p8 hn)
  unfold f_X6_rotten f_X7_rotten f_X6_isForce
  simp only [kb_in7]
  rcases s_isCl hn hW.1 a1 with ⟨y1, y2⟩ | ⟨c, hc, rfl, y1, y2⟩
  · rw [if_pos y1, if_pos y2]; exact ⟨_, _, rfl, rfl, rfl⟩
  rw [if_neg y1, if_neg y2]
  by_cases c1 : f_X6_isWithin a2 (0 : Int32) (99 : Int32) = 0
  · rw [if_pos c1, if_pos c1]; exact ⟨_, _, rfl, rfl, rfl⟩
  rw [if_neg c1, if_neg c1]
  by_cases c2 : f_X6_isWithin a3 (0 : Int32) (10 : Int32) = 0
  · rw [if_pos c2, if_pos c2]; exact ⟨_, _, rfl, rfl, rfl⟩
  rw [if_neg c2, if_neg c2]
  by_cases c3 : f_X6_isWithin a4 (0 : Int32) (1 : Int32) = 0
  · rw [if_pos c3, if_pos c3]; exact ⟨_, _, rfl, rfl, rfl⟩
  rw [if_neg c3, if_neg c3]
  obtain ⟨p, -, hp, rfl⟩ := kb_win (a := 0) (b := 10) (by omega) (by omega) c2
  obtain ⟨e1, e2, e3⟩ := vb_eq hC hx hc
  have hv8 : vb bd x c < 256 := Nat.lt_of_lt_of_le e2 (p8 hn)
  have hcv : (vb bd x c).testBit c = false := tb_f e3 (Nat.le_refl c)
  have hvx : ∀ j, (vb bd x c).testBit j = true → x.testBit j = true := by
    intro j hj
    obtain ⟨b, -, -, ev⟩ := vb_bit hC hx hc
    rw [ev, Nat.testBit_and, Bool.and_eq_true] at hj
    exact hj.2
  have hN8 := pc_le x hx8
  have p1N : 1 ≤ 10 ^ pcn x 8 := Nat.one_le_pow _ _ (by omega)
  have p2N : 10 ^ pcn x 8 ≤ 10 ^ 8 := Nat.pow_le_pow_right (by omega) hN8
  -- the reference
  have try1 : ∀ (s : Nat) (tr : Nat → Int32), s < 256 → ∃ u b u', f_X7_begin w tr = some u ∧ f_X7_pullIn_1 (upd u 2 ((u 2) &&& (nI s ^^^ (-1 : Int32)))) a2 = some (b, u') ∧ ∃ y, y < 256 ∧ u' 2 = nI y ∧ (y.testBit c = false ↔ (x.testBit c = false ∨ s.testBit c = true ∨ (¬ a2 < f_X4_firmBy wet (kd c) (hd c) day ∧ vb bd x c &&& s = vb bd x c))) := by
    intro s tr hs
    obtain ⟨u, eu, hu⟩ := s_begin w tr
    have hWu : KW n kd hd bd pt (upd u 2 ((u 2) &&& (nI s ^^^ (-1 : Int32)))) := KW_of hn hW (fun i h1 h2 => by rw [upd_ne (by omega)]; exact hu i (by omega))
    have h2u : upd u 2 ((u 2) &&& (nI s ^^^ (-1 : Int32))) 2 = nI (sd x s) := by rw [upd_eq, hu 2 (by omega), h2, kb_dif x hx8 s hs]
    have ep := s_pullIn hC hWu (sd_lt hx) h2u a2
    rw [show upd u 2 ((u 2) &&& (nI s ^^^ (-1 : Int32))) 3 = wet by rw [upd_ne (by omega), hu 3 (by omega)]; exact hH.2.2.2.1, show upd u 2 ((u 2) &&& (nI s ^^^ (-1 : Int32))) 0 = day by rw [upd_ne (by omega), hu 0 (by omega)]; exact hH.1] at ep
    refine ⟨u, _, _, eu, by rw [e_pull1]; exact ep, _, sd_lt (sd_lt hx8), upd_eq, ?_⟩
    have hpf := pfree_sd hC hx (s := s) hc
    have hfall : (fallN kd hd bd wet day (sd x s) a2).testBit c = true ↔ ((x.testBit c = true ∧ s.testBit c = false ∧ ∀ j, (vb bd x c).testBit j = true → s.testBit j = true) ∧ ¬ a2 < f_X4_firmBy wet (kd c) (hd c) day) := by
      unfold fallN
      rw [ng_tb, decide_eq_true (show c < 8 by omega), Bool.true_and, Bool.and_eq_true, decide_eq_true_eq, hpf]
    rw [sd_tb (show c < 8 by omega), sd_tb (show c < 8 by omega), sub_iff]
    cases hxc : x.testBit c
    · simp
    · cases hsc : s.testBit c
      · rw [hxc, hsc] at hfall
        cases hF : (fallN kd hd bd wet day (sd x s) a2).testBit c
        · simp only [Bool.not_false, Bool.and_true, Bool.true_and]
          constructor
          · intro h; exact absurd h (by decide)
          · rintro (h | h | ⟨h1, h3⟩)
            · exact absurd h (by decide)
            · exact absurd h (by decide)
            · have := hfall.mpr ⟨⟨rfl, rfl, h3⟩, h1⟩
              rw [hF] at this
              exact absurd this (by decide)
        · have hh := hfall.mp hF
          simp only [Bool.not_true, Bool.and_false]
          exact ⟨fun _ => Or.inr (Or.inr ⟨hh.2, hh.1.2.2⟩), fun _ => trivial⟩
      · simp
  have outer : ∀ m fuel s (tr : Nat → Int32), s + m = x + 1 → m < fuel → ∃ u, fl_X7_rotten_79 fuel w tr (nI c) a2 (nI p) a4 (nI (sm8 (fun s => if (x.testBit c = false ∨ s.testBit c = true ∨ (¬ a2 < f_X4_firmBy wet (kd c) (hd c) day ∧ vb bd x c &&& s = vb bd x c)) then prd (fun e => gw x p e (s.testBit e)) n else 0) s)) (nI (10 ^ pcn x 8)) (nI s) = (match f_X7_partOf (nI (sm8 (fun s => if (x.testBit c = false ∨ s.testBit c = true ∨ (¬ a2 < f_X4_firmBy wet (kd c) (hd c) day ∧ vb bd x c &&& s = vb bd x c)) then prd (fun e => gw x p e (s.testBit e)) n else 0) (x + 1))) (nI (10 ^ pcn x 8)) a4 with
      | none => none
      | some q2 => some (q2, u)) := by
    intro m
    induction m with
    | zero =>
      intro fuel s tr hs hfu
      obtain ⟨g, rfl⟩ : ∃ g, fuel = g + 1 := ⟨fuel - 1, by omega⟩
      have e : s = x + 1 := by omega
      subst e
      refine ⟨tr, ?_⟩
      rw [fl_X7_rotten_79, h2, if_pos (nI_lt (by omega) (by omega))]
      rfl
    | succ m ih =>
      intro fuel s tr hs hfu
      obtain ⟨g, rfl⟩ : ∃ g, fuel = g + 1 := ⟨fuel - 1, by omega⟩
      have hs8 : s < 256 := by omega
      have hsn : s < 2 ^ n := by omega
      have hz := nI0 (a := sd s x) (sd_lt hs8)
      rw [fl_X7_rotten_79, h2, if_neg (nI_nlt (by omega) (by omega)), kb_dif s hs8 x hx8]
      by_cases hsub : sd s x = 0
      · rw [if_pos (hz.mpr hsub)]
        have hsx := sub_iff.mp ((sd0_iff hs8).mp hsub)
        obtain ⟨u, b, u', eu, ep, y, hy8, hy2, hyc⟩ := try1 s tr hs8
        -- the odds of this set
        have go : ∀ m2 f2 v, v + m2 = n → m2 < f2 → fl_X7_rotten_110 (fl_X7_rotten_79 g) f2 w tr (nI c) a2 (nI p) a4 (nI (sm8 (fun s => if (x.testBit c = false ∨ s.testBit c = true ∨ (¬ a2 < f_X4_firmBy wet (kd c) (hd c) day ∧ vb bd x c &&& s = vb bd x c)) then prd (fun e => gw x p e (s.testBit e)) n else 0) s)) (nI (10 ^ pcn x 8)) (nI s) (nI (prd (fun e => gw x p e (s.testBit e)) v)) (nI v) = fl_X7_rotten_79 g w u' (nI c) a2 (nI p) a4 (nI (sm8 (fun s => if (x.testBit c = false ∨ s.testBit c = true ∨ (¬ a2 < f_X4_firmBy wet (kd c) (hd c) day ∧ vb bd x c &&& s = vb bd x c)) then prd (fun e => gw x p e (s.testBit e)) n else 0) (s + 1))) (nI (10 ^ pcn x 8)) (nI (s + 1)) := by
          intro m2
          induction m2 with
          | zero =>
            intro f2 v hv hf2
            obtain ⟨f2, rfl⟩ : ∃ g, f2 = g + 1 := ⟨f2 - 1, by omega⟩
            have e : v = n := by omega
            subst e
            rw [fl_X7_rotten_110, hW.1, if_pos (Int32.le_refl _), eu]
            dsimp only
            rw [ep]
            dsimp only
            rw [nI_1]
            show _ = fl_X7_rotten_79 g w u' (nI c) a2 (nI p) a4 (nI (sm8 (fun s => if (x.testBit c = false ∨ s.testBit c = true ∨ (¬ a2 < f_X4_firmBy wet (kd c) (hd c) day ∧ vb bd x c &&& s = vb bd x c)) then prd (fun e => gw x p e (s.testBit e)) v else 0) s + (if (x.testBit c = false ∨ s.testBit c = true ∨ (¬ a2 < f_X4_firmBy wet (kd c) (hd c) day ∧ vb bd x c &&& s = vb bd x c)) then prd (fun e => gw x p e (s.testBit e)) v else 0))) (nI (10 ^ pcn x 8)) (nI (s + 1))
            cases hyb : y.testBit c
            · rw [if_pos (show f_X7_has (u' 2) (nI c) = 0 by rw [hy2]; exact h7f hy8 (by omega) hyb), if_pos (hyc.mp hyb), nI_add]
            · have hno : ¬ (x.testBit c = false ∨ s.testBit c = true ∨ (¬ a2 < f_X4_firmBy wet (kd c) (hd c) day ∧ vb bd x c &&& s = vb bd x c)) := fun h => by
                rw [hyc.mpr h] at hyb
                exact absurd hyb (by decide)
              rw [if_neg (show ¬ f_X7_has (u' 2) (nI c) = 0 by rw [hy2]; exact h7t hy8 (by omega) hyb), if_neg hno, Int32.add_zero]
              rfl
          | succ m2 ih2 =>
            intro f2 v hv hf2
            obtain ⟨f2, rfl⟩ : ∃ g, f2 = g + 1 := ⟨f2 - 1, by omega⟩
            have key := ih2 f2 (v + 1) (by omega) (by omega)
            have ep1 : prd (fun e => gw x p e (s.testBit e)) (v + 1) = prd (fun e => gw x p e (s.testBit e)) v * gw x p v (s.testBit v) := rfl
            rw [fl_X7_rotten_110, hW.1, if_neg (nI_ge (by omega) (by omega)), h2, nI_1]
            cases hxv : x.testBit v
            · have hsv : s.testBit v = false := by
                cases hh : s.testBit v
                · rfl
                · rw [hsx v hh] at hxv; exact absurd hxv (by decide)
              have eg : gw x p v (s.testBit v) = 1 := by
                unfold gw
                rw [hxv, hsv]
                rfl
              have em : nI (prd (fun e => gw x p e (s.testBit e)) v) * (1 : Int32) = nI (prd (fun e => gw x p e (s.testBit e)) (v + 1)) := by
                rw [ep1, eg]
                exact pk_mul _ 1
              rw [if_pos (h7f hx8 (by omega) hxv), em]
              exact key
            · rw [if_neg (h7t hx8 (by omega) hxv)]
              cases hsv : s.testBit v
              · have eg : gw x p v (s.testBit v) = 10 - p := by
                  unfold gw
                  rw [hxv, hsv]
                  rfl
                have e10 : (10 : Int32) - nI p = nI (10 - p) := pk_sub (a := 10) hp
                have em : nI (prd (fun e => gw x p e (s.testBit e)) v) * ((10 : Int32) - nI p) = nI (prd (fun e => gw x p e (s.testBit e)) (v + 1)) := by
                  rw [ep1, eg, e10]
                  exact pk_mul _ _
                rw [if_pos (h7f hs8 (by omega) hsv), em]
                exact key
              · have eg : gw x p v (s.testBit v) = p := by
                  unfold gw
                  rw [hxv, hsv]
                  rfl
                have em : nI (prd (fun e => gw x p e (s.testBit e)) v) * nI p = nI (prd (fun e => gw x p e (s.testBit e)) (v + 1)) := by
                  rw [ep1, eg]
                  exact pk_mul _ _
                rw [if_neg (h7t hs8 (by omega) hsv), em]
                exact key
        have hgo := go n 300 0 (by omega) (by omega)
        have hgo' : fl_X7_rotten_110 (fl_X7_rotten_79 g) 300 w tr (nI c) a2 (nI p) a4 _ (nI (10 ^ pcn x 8)) (nI s) (1 : Int32) (0 : Int32) = _ := hgo
        rw [hgo']
        exact ih g (s + 1) u' (by omega) (by omega)
      · rw [if_neg (fun h => hsub (hz.mp h)), nI_1]
        have e0 : sm8 (fun s => if (x.testBit c = false ∨ s.testBit c = true ∨ (¬ a2 < f_X4_firmBy wet (kd c) (hd c) day ∧ vb bd x c &&& s = vb bd x c)) then prd (fun e => gw x p e (s.testBit e)) n else 0) (s + 1) = sm8 (fun s => if (x.testBit c = false ∨ s.testBit c = true ∨ (¬ a2 < f_X4_firmBy wet (kd c) (hd c) day ∧ vb bd x c &&& s = vb bd x c)) then prd (fun e => gw x p e (s.testBit e)) n else 0) s := by
          show sm8 _ s + (if (x.testBit c = false ∨ s.testBit c = true ∨ (¬ a2 < f_X4_firmBy wet (kd c) (hd c) day ∧ vb bd x c &&& s = vb bd x c)) then prd (fun e => gw x p e (s.testBit e)) n else 0) = _
          rw [gw_out hx hsn (fun h => hsub ((sd0_iff hs8).mpr h))]
          split <;> rfl
        have key := ih g (s + 1) tr (by omega) (by omega)
        rw [e0] at key
        exact key
  -- the sum over all sets of tied ones is that over all numbers
  have ext : sm8 (fun s => if (x.testBit c = false ∨ s.testBit c = true ∨ (¬ a2 < f_X4_firmBy wet (kd c) (hd c) day ∧ vb bd x c &&& s = vb bd x c)) then prd (fun e => gw x p e (s.testBit e)) n else 0) (2 ^ n) = sm8 (fun s => if (x.testBit c = false ∨ s.testBit c = true ∨ (¬ a2 < f_X4_firmBy wet (kd c) (hd c) day ∧ vb bd x c &&& s = vb bd x c)) then prd (fun e => gw x p e (s.testBit e)) n else 0) (x + 1) := by
    have G : ∀ m, x + 1 + m ≤ 2 ^ n → sm8 (fun s => if (x.testBit c = false ∨ s.testBit c = true ∨ (¬ a2 < f_X4_firmBy wet (kd c) (hd c) day ∧ vb bd x c &&& s = vb bd x c)) then prd (fun e => gw x p e (s.testBit e)) n else 0) (x + 1 + m) = sm8 (fun s => if (x.testBit c = false ∨ s.testBit c = true ∨ (¬ a2 < f_X4_firmBy wet (kd c) (hd c) day ∧ vb bd x c &&& s = vb bd x c)) then prd (fun e => gw x p e (s.testBit e)) n else 0) (x + 1) := by
      intro m
      induction m with
      | zero => intro _; rfl
      | succ m ih =>
        intro hm
        show sm8 _ (x + 1 + m) + (if (x.testBit c = false ∨ (x + 1 + m).testBit c = true ∨ (¬ a2 < f_X4_firmBy wet (kd c) (hd c) day ∧ vb bd x c &&& (x + 1 + m) = vb bd x c)) then prd (fun e => gw x p e ((x + 1 + m).testBit e)) n else 0) = _
        have hout := gw_out (p := p) hx (show x + 1 + m < 2 ^ n by omega) (fun h => by
          have := sub_le (sub_iff.mp h)
          omega)
        rw [hout, ih (by omega)]
        split <;> rfl
    have h := G (2 ^ n - (x + 1)) (by omega)
    rw [show x + 1 + (2 ^ n - (x + 1)) = 2 ^ n by omega] at h
    exact h
  have ref : ∀ U, sm8 (fun s => if (x.testBit c = false ∨ s.testBit c = true ∨ (¬ a2 < f_X4_firmBy wet (kd c) (hd c) day ∧ vb bd x c &&& s = vb bd x c)) then prd (fun e => gw x p e (s.testBit e)) n else 0) (2 ^ n) = U → U < 2 ^ 31 → ∃ u, fl_X7_rotten_49 300 w tr (nI c) a2 (nI p) a4 (0 : Int32) (1 : Int32) (0 : Int32) = some (nI ((if a4 = 0 then U else 10 ^ pcn x 8) / Nat.gcd U (10 ^ pcn x 8)), u) := by
    intro U hU hU31
    rw [ext] at hU
    have go : ∀ m fuel v, v + m = pcn x 8 → m < fuel → fl_X7_rotten_49 fuel w tr (nI c) a2 (nI p) a4 (0 : Int32) (nI (10 ^ v)) (nI v) = fl_X7_rotten_79 300 w tr (nI c) a2 (nI p) a4 (0 : Int32) (nI (10 ^ pcn x 8)) (0 : Int32) := by
      intro m
      induction m with
      | zero =>
        intro fuel v hv hfu
        obtain ⟨g, rfl⟩ : ∃ g, fuel = g + 1 := ⟨fuel - 1, by omega⟩
        have e : v = pcn x 8 := by omega
        rw [e, fl_X7_rotten_49, h2, bcnt x hx8, bc_pc x hx8]
        dsimp only
        rw [if_pos (Int32.le_refl _)]
      | succ m ih =>
        intro fuel v hv hfu
        obtain ⟨g, rfl⟩ : ∃ g, fuel = g + 1 := ⟨fuel - 1, by omega⟩
        have em : nI (10 ^ v) * (10 : Int32) = nI (10 ^ (v + 1)) := pk_mul (10 ^ v) 10
        rw [fl_X7_rotten_49, h2, bcnt x hx8, bc_pc x hx8]
        dsimp only
        rw [if_neg (nI_ge (by omega) (by omega)), em, nI_1]
        exact ih g (v + 1) (by omega) (by omega)
    obtain ⟨u, hu⟩ := outer (x + 1) 300 0 tr (by omega) (by omega)
    have hu' : fl_X7_rotten_79 300 w tr (nI c) a2 (nI p) a4 (0 : Int32) (nI (10 ^ pcn x 8)) (0 : Int32) = _ := hu
    have h0 : fl_X7_rotten_49 300 w tr (nI c) a2 (nI p) a4 (0 : Int32) (1 : Int32) (0 : Int32) = _ := go (pcn x 8) 300 0 (by omega) (by omega)
    refine ⟨u, ?_⟩
    rw [h0, hu', hU, s_part hU31 p1N (by omega)]
  cases hxc : x.testBit c
  · -- undone already
    have hU : sm8 (fun s => if (x.testBit c = false ∨ s.testBit c = true ∨ (¬ a2 < f_X4_firmBy wet (kd c) (hd c) day ∧ vb bd x c &&& s = vb bd x c)) then prd (fun e => gw x p e (s.testBit e)) n else 0) (2 ^ n) = 10 ^ pcn x 8 := by
      have a := sum_prod (gw x p) n
      have b : sm8 (fun s => if (x.testBit c = false ∨ s.testBit c = true ∨ (¬ a2 < f_X4_firmBy wet (kd c) (hd c) day ∧ vb bd x c &&& s = vb bd x c)) then prd (fun e => gw x p e (s.testBit e)) n else 0) (2 ^ n) = sm8 (fun s => prd (fun e => gw x p e (s.testBit e)) n) (2 ^ n) := sm8_ext _ (fun s _ => if_pos (Or.inl hxc))
      have d : prd (fun e => gw x p e false + gw x p e true) n = prd (fun e => if x.testBit e = true then 10 else 1) n := by
        refine prd_ext n (fun e he => ?_)
        unfold gw
        cases hxe : x.testBit e
        · rfl
        · show (10 - p) + p = 10
          omega
      have pnn : pcn x 8 = pcn x n := by
        have G : ∀ m, n + m ≤ 8 → pcn x (n + m) = pcn x n := by
          intro m
          induction m with
          | zero => intro _; rfl
          | succ m ih =>
            intro hm
            show pcn x (n + m) + (if x.testBit (n + m) then 1 else 0) = _
            rw [tb_f hx (by omega), if_neg (by decide), Nat.add_zero]
            exact ih (by omega)
        have h := G (8 - n) (by omega)
        rw [show n + (8 - n) = 8 by omega] at h
        exact h
      rw [b, a, d, prd_tot, pnn]
    obtain ⟨u, hu⟩ := ref _ hU (by omega)
    rw [if_pos (h6f hx8 (by omega) hxc), hu]
    refine ⟨_, _, rfl, rfl, ?_⟩
    show (1 : Int32) = nI _
    rw [Nat.gcd_self]
    have e : (if a4 = 0 then 10 ^ pcn x 8 else 10 ^ pcn x 8) = 10 ^ pcn x 8 := by split <;> rfl
    rw [e, Nat.div_self (by omega)]
    rfl
  · rw [if_neg (h6t hx8 (by omega) hxc), s_firm6 kd hd wet day (by omega)]
    dsimp only
    have hs1 := pc_sd x hx8 c (by omega) hxc
    have hvsub : sd (vb bd x c) x = 0 := (sd0_iff hv8).mpr (sub_iff.mpr hvx)
    have hs2 := pc_split x hx8 (vb bd x c) hv8 hvsub
    have hcsd : (sd x (vb bd x c)).testBit c = true := by rw [sd_tb (show c < 8 by omega), hxc, hcv]; rfl
    have hs3 := pc_sd (sd x (vb bd x c)) (sd_lt hx8) c (by omega) hcsd
    have hsum := gw_sum (p := p) hn hx hp hc hxc hvx hcv (¬ a2 < f_X4_firmBy wet (kd c) (hd c) day)
    have hU : sm8 (fun s => if (x.testBit c = false ∨ s.testBit c = true ∨ (¬ a2 < f_X4_firmBy wet (kd c) (hd c) day ∧ vb bd x c &&& s = vb bd x c)) then prd (fun e => gw x p e (s.testBit e)) n else 0) (2 ^ n) = p * 10 ^ pcn (sd x (2 ^ c)) 8 + (if ¬ a2 < f_X4_firmBy wet (kd c) (hd c) day then (10 - p) * p ^ pcn (vb bd x c) 8 * 10 ^ pcn (sd (sd x (vb bd x c)) (2 ^ c)) 8 else 0) := by
      rw [← hsum]
      refine sm8_ext _ (fun s _ => ?_)
      by_cases h : s.testBit c = true ∨ (¬ a2 < f_X4_firmBy wet (kd c) (hd c) day ∧ vb bd x c &&& s = vb bd x c)
      · rw [if_pos h, if_pos (Or.inr h)]
      · rw [if_neg h, if_neg (fun hh => hh.elim (fun h' => by rw [hxc] at h'; exact absurd h' (by decide)) h)]
    -- two fractions that are one
    have same : ∀ a b tt, 1 ≤ b → a ≤ b → 0 < tt → b * tt = 10 ^ pcn x 8 → b ∣ 10 ^ 8 → p * 10 ^ pcn (sd x (2 ^ c)) 8 + (if ¬ a2 < f_X4_firmBy wet (kd c) (hd c) day then (10 - p) * p ^ pcn (vb bd x c) 8 * 10 ^ pcn (sd (sd x (vb bd x c)) (2 ^ c)) 8 else 0) = a * tt → ∃ u, fl_X7_rotten_49 300 w tr (nI c) a2 (nI p) a4 (0 : Int32) (1 : Int32) (0 : Int32) = some (nI (if a4 = 0 then a / Nat.gcd a b else b / Nat.gcd a b), u) ∧ f_X6_lowestPartOf (nI a) (nI b) = some (nI (a / Nat.gcd a b)) ∧ f_X6_lowestPartOf (nI b) (nI a) = some (nI (b / Nat.gcd a b)) := by
      intro a b tt hb hab ht hbt hdv hval
      have hb8 : b ≤ 10 ^ 8 := Nat.le_of_dvd (by omega) hdv
      have hat : a * tt ≤ b * tt := Nat.mul_le_mul_right _ hab
      obtain ⟨u, hu⟩ := ref (a * tt) (hU.trans hval) (by omega)
      have hg : 0 < Nat.gcd a b := Nat.gcd_pos_of_pos_right _ (by omega)
      have hgd : Nat.gcd a b ∣ 10 ^ 8 := Nat.dvd_trans (Nat.gcd_dvd_right a b) hdv
      refine ⟨u, ?_, s_lowest (by omega) (by omega) hg hgd, ?_⟩
      · rw [hu, ← hbt, Nat.gcd_mul_right]
        by_cases h4 : a4 = 0
        · rw [if_pos h4, if_pos h4, Nat.mul_div_mul_right _ _ ht]
        · rw [if_neg h4, if_neg h4, Nat.mul_div_mul_right _ _ ht]
      · have h := s_lowest (P := b) (O := a) (by omega) (by omega) (by rw [Nat.gcd_comm]; exact hg) (by rw [Nat.gcd_comm]; exact hgd)
        rw [Nat.gcd_comm b a] at h
        exact h
    by_cases hf : a2 < f_X4_firmBy wet (kd c) (hd c) day
    · rw [if_pos hf]
      have hval : p * 10 ^ pcn (sd x (2 ^ c)) 8 + (if ¬ a2 < f_X4_firmBy wet (kd c) (hd c) day then (10 - p) * p ^ pcn (vb bd x c) 8 * 10 ^ pcn (sd (sd x (vb bd x c)) (2 ^ c)) 8 else 0) = p * 10 ^ pcn (sd x (2 ^ c)) 8 := by
        rw [if_neg (fun h => h hf), Nat.add_zero]
      obtain ⟨u, g1, g2, g3⟩ := same p 10 (10 ^ pcn (sd x (2 ^ c)) 8) (by omega) hp (Nat.pow_pos (by omega)) (by rw [← hs1, Nat.pow_succ, Nat.mul_comm]) (by decide) hval
      have g2' : f_X6_lowestPartOf (nI p) (10 : Int32) = _ := g2
      have g3' : f_X6_lowestPartOf (10 : Int32) (nI p) = _ := g3
      rw [g1, g2', g3']
      by_cases h4 : a4 = 0
      · simp only [if_pos h4]
        exact ⟨_, _, rfl, rfl, rfl⟩
      · simp only [if_neg h4]
        exact ⟨_, _, rfl, rfl, rfl⟩
    · rw [if_neg hf, if_neg (nI_in (by omega) (by decide)), nI_clamp (by omega), e1, bc_pc _ hv8]
      have hm8 : pcn (vb bd x c) 8 < 9 := by omega
      have pw1 : f_X6_powerOf (10 : Int32) (nI (pcn (vb bd x c) 8)) = some (nI (10 ^ pcn (vb bd x c) 8)) := s_power 10 hm8
      have pw2 := s_power p hm8
      rw [pw1, pw2]
      dsimp only
      have q1 : nI p * nI (10 ^ pcn (vb bd x c) 8) + ((10 : Int32) - nI p) * nI (p ^ pcn (vb bd x c) 8) = nI (p * 10 ^ pcn (vb bd x c) 8 + (10 - p) * p ^ pcn (vb bd x c) 8) := by
        have e10 : (10 : Int32) - nI p = nI (10 - p) := pk_sub (a := 10) hp
        rw [e10, pk_mul, pk_mul, nI_add]
      have q2 : (10 : Int32) * nI (10 ^ pcn (vb bd x c) 8) = nI (10 ^ (pcn (vb bd x c) 8 + 1)) := by
        have h : (10 : Int32) * nI (10 ^ pcn (vb bd x c) 8) = nI (10 * 10 ^ pcn (vb bd x c) 8) := pk_mul 10 _
        rw [h, Nat.pow_succ, Nat.mul_comm]
      rw [q1, q2]
      have hpw : p ^ pcn (vb bd x c) 8 ≤ 10 ^ pcn (vb bd x c) 8 := Nat.pow_le_pow_left hp _
      have hle : p * 10 ^ pcn (vb bd x c) 8 + (10 - p) * p ^ pcn (vb bd x c) 8 ≤ 10 ^ (pcn (vb bd x c) 8 + 1) := by
        have h1 : (10 - p) * p ^ pcn (vb bd x c) 8 ≤ (10 - p) * 10 ^ pcn (vb bd x c) 8 := Nat.mul_le_mul_left _ hpw
        have h3 : p * 10 ^ pcn (vb bd x c) 8 + (10 - p) * 10 ^ pcn (vb bd x c) 8 = 10 ^ (pcn (vb bd x c) 8 + 1) := by
          rw [← Nat.add_mul, show p + (10 - p) = 10 by omega, Nat.pow_succ, Nat.mul_comm]
        omega
      have hval : p * 10 ^ pcn (sd x (2 ^ c)) 8 + (if ¬ a2 < f_X4_firmBy wet (kd c) (hd c) day then (10 - p) * p ^ pcn (vb bd x c) 8 * 10 ^ pcn (sd (sd x (vb bd x c)) (2 ^ c)) 8 else 0) = (p * 10 ^ pcn (vb bd x c) 8 + (10 - p) * p ^ pcn (vb bd x c) 8) * 10 ^ pcn (sd (sd x (vb bd x c)) (2 ^ c)) 8 := by
        rw [if_pos hf, Nat.add_mul, Nat.mul_assoc p, ← Nat.pow_add, show pcn (vb bd x c) 8 + pcn (sd (sd x (vb bd x c)) (2 ^ c)) 8 = pcn (sd x (2 ^ c)) 8 by omega]
      obtain ⟨u, g1, g2, g3⟩ := same _ (10 ^ (pcn (vb bd x c) 8 + 1)) (10 ^ pcn (sd (sd x (vb bd x c)) (2 ^ c)) 8) (Nat.one_le_pow _ _ (by omega)) hle (Nat.pow_pos (by omega)) (by rw [← Nat.pow_add, show pcn (vb bd x c) 8 + 1 + pcn (sd (sd x (vb bd x c)) (2 ^ c)) 8 = pcn x 8 by omega]) (Nat.pow_dvd_pow 10 (by omega)) hval
      rw [g1, g2, g3]
      by_cases h4 : a4 = 0
      · simp only [if_pos h4]
        exact ⟨_, _, rfl, rfl, rfl⟩
      · simp only [if_neg h4]
        exact ⟨_, _, rfl, rfl, rfl⟩
