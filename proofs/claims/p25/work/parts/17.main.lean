section KNS5
variable {p : Program} {l : Launch} {e : Env} {R : Room} {s : State} {m : MethodId} {args : Array Value} {below : List Frame} {meth : Method} {c : Code} {Q : State → Prop} {k0 z0 : Nat}
variable {cl : List vw_C} {Ts Tg Ns : List Cond} {T : List kn_M} {b base L : Nat} {xs : Nat → Int32} {cA : FieldType → ClassId} {D : va_G} {M M1 : kn_M} {pc j : Nat} {lo : List (Nat × Value)} {st as : List Value} {h : kn_H}
theorem kn_goodC (S : kn_St cl Ts Tg Ns T) (hj : kn_at T j = some M1) : GoodIn Tg (Cond.code M1.1 M1.2.1 M1.2.2.1 M1.2.2.2.1 :: Tg) := by
  intro w hw
  rcases List.mem_cons.mp hw with rfl | hw
  · exact ⟨(S.2.1 j M1 hj).1, Or.inl rfl⟩
  · exact ⟨hw, S.2.2.2.1 w hw⟩
theorem kn_map_opt (v : Option Value) (r : List Value) : (v.toList ++ r).map (kn_v b base) = (v.map (kn_v b base)).toList ++ r.map (kn_v b base) := by cases v <;> rfl
theorem kn_pre (C0 : kn_Ctx cl Tg Ns b base L xs cA D M p R s m args meth c) (hns : ∀ w ∈ Ns, ∃ (a : String) (i : Nat) (x : MethodName) (h : String), w = .methodLinkNest a i x h) {rr : kn_H} {H : Heap} {locs : List Loc} (hH : H.size = base + rr.length) (hP : va_P D cl (kn_w (kn_e cA b base) base rr) H) (hS : va_S (fun q => base ≤ q) s.heap H locs) {U : State} (hU : U.heap = H) (hW : s.WarmedH U.vm) :
    kn_Pc cl Ns b base L xs cA D as (.inl (.int, L, .inl xs) :: rr) ((as.map (kn_v b base)).toArray) U := by
  obtain ⟨hx, hb, hr, hml, hown, hts, hnw, hlk, hnm, hK, hX, hbb, hbs, hfr, hlc⟩ := C0
  refine ⟨rfl, fun w hw => ?_, va_K.moved hW.alike hK, ?_, rr, rfl, by rw [hU]; exact hH, by rw [hU]; exact hP⟩
  · obtain ⟨a1, i1, x1, h1, rfl⟩ := hns w hw
    exact va_Nw.warmM hW (hnw _ hw)
  · rw [hU]
    exact (hX.kept (hS.2.1 b (Nat.lt_of_lt_of_le hbb hbs) (Nat.not_le.mpr hbb))).moved hW.alike
theorem kn_cc_spec {n nL : Nat} (h : kn_cc M M1 n nL = true) : M1.2.2.2.2.1.1 + 1 ≤ M.2.2.2.2.1.1 ∧ 8 + (M1.2.2.1 + 11) + M1.2.2.2.2.1.2 ≤ M.2.2.2.2.1.2 ∧ nL = M1.2.2.1 ∧ M1.1.cls ≠ "java/lang/invoke/MethodHandle" ∧ M1.1.cls ≠ "java/lang/invoke/VarHandle" ∧ (parseMethodDescriptor M1.1.desc).map (fun d => d.parameters.length) = some n := by
  obtain ⟨g1, g2⟩ := Bool.and_eq_true_iff.mp h
  obtain ⟨g2, g3⟩ := Bool.and_eq_true_iff.mp g2
  obtain ⟨g3, g4⟩ := Bool.and_eq_true_iff.mp g3
  obtain ⟨g4, g5⟩ := Bool.and_eq_true_iff.mp g4
  obtain ⟨g5, g6⟩ := Bool.and_eq_true_iff.mp g5
  exact ⟨Nat.le_of_ble_eq_true g1, Nat.le_of_ble_eq_true g2, Nat.eq_of_beq_eq_true g3, of_decide_eq_true g4, of_decide_eq_true g5, of_decide_eq_true g6⟩
theorem kn_Wcall_v (S : kn_St cl Ts Tg Ns T) (C0 : kn_Ctx cl Tg Ns b base L xs cA D M p R s m args meth c) {idx : Nat} {aux pl : List Nat} (hd : decode M.2.1 pc = .ok (.invokevirtual idx, 3)) (hck : kn_ckV cl Ts Ns T M idx aux pl = true) {f1 : kn_F} (hs : kn_cv (pc + 3) aux lo st h = some (.inr (.inl (j, as, f1)))) (hj : kn_at T j = some M1)
    {r : Option Value × kn_H × Nat × Nat} (IH : kn_Snd cl Tg Ns b base L xs cA D l M1 (0, lv_args 0 as, []) h r) (hcells : k0 + r.2.2.1 ≤ R.cells) (hslots : z0 + r.2.2.2 ≤ R.slots) (hk : kn_Nx cl b base L xs cA D M.2.2.1 p l e R s m args below meth c Q (f1.1, f1.2.1, r.1.toList ++ f1.2.2) r.2.1 (k0 + r.2.2.1) (z0 + r.2.2.2)) :
    kn_Nx cl b base L xs cA D M.2.2.1 p l e R s m args below meth c Q (pc, lo, st) h k0 z0 := by
  obtain ⟨n, ci, nL, tl, a, rs, fs, rfl, hdr, hat, htk, hcat, hlen, rfl, rfl⟩ := kn_cv_inv hs
  unfold kn_ckV at hck
  split at hck
  · rename_i j' n' ci' nL' ne tl' i1 i2 i3 i4 tl2 he
    obtain ⟨rfl, rfl, rfl, rfl, rfl⟩ : j = j' ∧ n = n' ∧ ci = ci' ∧ nL = nL' ∧ tl = ne :: tl' := by simpa using he
    rw [hj] at hck
    split at hck
    · rename_i M1' q hM1 hq
      cases hM1
      obtain ⟨g1, g2⟩ := Bool.and_eq_true_iff.mp hck
      obtain ⟨g2, g3⟩ := Bool.and_eq_true_iff.mp g2
      obtain ⟨g3, g4⟩ := Bool.and_eq_true_iff.mp g3
      obtain ⟨g4, g5⟩ := Bool.and_eq_true_iff.mp g4
      obtain ⟨g5, g6⟩ := Bool.and_eq_true_iff.mp g5
      obtain ⟨c1, c2, rfl, c4, c5, c6⟩ := kn_cc_spec g1
      have hqc : q.1 = M1.1.cls := of_decide_eq_true g2
      rw [kn_at_eq] at hq
      intro H locs ls hR hl
      refine kn_bound (fun hle => ?_)
      have C0' := C0
      obtain ⟨hx, hb, hr, hml, hown, hts, hnw, hlk, hnm, hK, hX, hbb, hbs, hfr, hlc⟩ := C0
      obtain ⟨rr, rfl, hz, hP, hS⟩ := hR
      have hH := kn_exact hz hP hS hbs hle
      cases a with
      | zero => cases hat
      | succ a =>
        have hat' : kn_at rr a = some (.inr (ci, fs)) := hat
        have hM := kn_met S l hbb hj IH hlen
        have hst : st.map (kn_v b base) = ((st.take n).reverse.map (kn_v b base)).reverse ++ .ref (base + a) :: rs.map (kn_v b base) := by
          rw [List.map_reverse, List.reverse_reverse]
          calc st.map (kn_v b base) = (st.take n ++ st.drop n).map (kn_v b base) := by rw [List.take_append_drop]
            _ = _ := by rw [hdr, List.map_append]; rfl
        have hp : PreV s H q.1 (base + a) (kn_Pc cl Ns b base L xs cA D (.ref (a + 1) :: (st.take n).reverse) (.inl (.int, L, .inl xs) :: rr)) ((st.take n).reverse.map (kn_v b base)) :=
          ⟨kn_blind S.2.2.2.2.2, va_recv hK hP hq (kn_w_get hat'), fun U hU hW => kn_pre C0' S.2.2.2.2.2 hH hP hS hU hW⟩
        rw [hqc] at hp
        have hln : ((st.take n).reverse.map (kn_v b base)).length = n := by rw [List.length_map, List.length_reverse]; exact htk
        have hw8 : ((rs.map (kn_v b base)).map fun v => v.category).sum ≤ 8 := by rw [kn_cat_map]; exact hcat
        have hk' : ∀ (H1 : Heap) (locs1 : List Loc), kn_Rel cl b base L xs cA D s H1 locs1 (k0 + r.2.2.1) r.2.1 → W p l e R s m args below meth c H1 locs1 (k0 + r.2.2.1) (z0 + r.2.2.2) Q (F0 m (pc + 3) ls ((r.1.map (kn_v b base)).toList ++ rs.map (kn_v b base))) := by
          intro H1 locs1 hR1
          have := hk H1 locs1 ls hR1 hl
          rw [kn_map_opt] at this
          exact this
        cases ne with
        | zero =>
          exact kn_callR (rest := rs.map (kn_v b base)) (va_runV (As := (st.take n).reverse.map (kn_v b base)) ⟨hx, hb, hml, hown, hts⟩ hM ⟨callB_of n hts (kn_goodC S hj) rfl rfl rfl (hts _ (kn_w1_in S g4)) (hts _ (kn_w1_in S g3)) ⟨c4, c5, c6⟩ ⟨Nat.le_trans c1 hfr, Nat.le_trans c2 hlc⟩, hts _ (kn_w1_in S g5), hts _ (kn_w1_in S g6)⟩ hp rfl hln hl.1 hst (lv_room hw8) hd ⟨hcells, hslots⟩) hS hz hH hk'
        | succ ne =>
          have hnl : va_Nw (.methodLinkNest M.1.cls idx M1.1 "KnotLaw") s := hnw _ (by
            have h9 := of_decide_eq_true g3
            rw [kn_at_eq] at h9
            exact List.mem_of_getElem? h9)
          exact kn_callR (rest := rs.map (kn_v b base)) (va_runVN (As := (st.take n).reverse.map (kn_v b base)) ⟨hx, hb, hml, hown, hts⟩ hM ⟨va_cnB n hts (kn_goodC S hj) rfl rfl rfl hnl (hts _ (kn_w1_in S g4)) ⟨c4, c5, c6⟩ ⟨Nat.le_trans c1 hfr, Nat.le_trans c2 hlc⟩, hts _ (kn_w1_in S g5), hts _ (kn_w1_in S g6)⟩ hp rfl hln hl.1 hst (lv_room hw8) hd ⟨hcells, hslots⟩) hS hz hH hk'
    · cases hck
  · cases hck
theorem kn_Wcall_i (S : kn_St cl Ts Tg Ns T) (C0 : kn_Ctx cl Tg Ns b base L xs cA D M p R s m args meth c) {idx : Nat} {aux pl : List Nat} (hd : decode M.2.1 pc = .ok (.invokespecial idx, 3)) (hck : kn_ckI cl Ts Ns T M idx aux pl = true) {f1 : kn_F} (hs : kn_cv (pc + 3) aux lo st h = some (.inr (.inl (j, as, f1)))) (hj : kn_at T j = some M1)
    {r : Option Value × kn_H × Nat × Nat} (IH : kn_Snd cl Tg Ns b base L xs cA D l M1 (0, lv_args 0 as, []) h r) (hcells : k0 + r.2.2.1 ≤ R.cells) (hslots : z0 + r.2.2.2 ≤ R.slots) (hk : kn_Nx cl b base L xs cA D M.2.2.1 p l e R s m args below meth c Q (f1.1, f1.2.1, r.1.toList ++ f1.2.2) r.2.1 (k0 + r.2.2.1) (z0 + r.2.2.2)) :
    kn_Nx cl b base L xs cA D M.2.2.1 p l e R s m args below meth c Q (pc, lo, st) h k0 z0 := by
  obtain ⟨n, ci, nL, tl, a, rs, fs, rfl, hdr, hat, htk, hcat, hlen, rfl, rfl⟩ := kn_cv_inv hs
  unfold kn_ckI at hck
  split at hck
  · rename_i he
    cases he
  · rename_i j' n' ci' nL' ne tl' i1 i2 i3 tl2 he
    obtain ⟨rfl, rfl, rfl, rfl, rfl⟩ : j = j' ∧ n = n' ∧ ci = ci' ∧ nL = nL' ∧ tl = ne :: tl' := by simpa using he
    rw [hj] at hck
    dsimp only at hck
    obtain ⟨g1, g2⟩ := Bool.and_eq_true_iff.mp hck
    obtain ⟨g2, g3⟩ := Bool.and_eq_true_iff.mp g2
    obtain ⟨g3, g4⟩ := Bool.and_eq_true_iff.mp g3
    obtain ⟨g4, g5⟩ := Bool.and_eq_true_iff.mp g4
    obtain ⟨g5, g6⟩ := Bool.and_eq_true_iff.mp g5
    obtain ⟨c1, c2, rfl, c4, c5, c6⟩ := kn_cc_spec g1
    have hnm1 : M1.1.name = "<init>" := of_decide_eq_true g2
    have hrt1 : M1.2.2.2.1 = none := of_decide_eq_true g3
    intro H locs ls hR hl
    refine kn_bound (fun hle => ?_)
    have C0' := C0
    obtain ⟨hx, hb, hr, hml, hown, hts, hnw, hlk, hnm, hK, hX, hbb, hbs, hfr, hlc⟩ := C0
    obtain ⟨rr, rfl, hz, hP, hS⟩ := hR
    have hH := kn_exact hz hP hS hbs hle
    cases a with
    | zero => cases hat
    | succ a =>
      have hM := kn_met S l hbb hj IH hlen
      have hst : st.map (kn_v b base) = ((st.take n).reverse.map (kn_v b base)).reverse ++ .ref (base + a) :: rs.map (kn_v b base) := by
        rw [List.map_reverse, List.reverse_reverse]
        calc st.map (kn_v b base) = (st.take n ++ st.drop n).map (kn_v b base) := by rw [List.take_append_drop]
          _ = _ := by rw [hdr, List.map_append]; rfl
      have hp : PreS s H (kn_Pc cl Ns b base L xs cA D (.ref (a + 1) :: (st.take n).reverse) (.inl (.int, L, .inl xs) :: rr)) (.ref (base + a) :: (st.take n).reverse.map (kn_v b base)) :=
        ⟨kn_blind S.2.2.2.2.2, fun U hU hW => kn_pre C0' S.2.2.2.2.2 hH hP hS hU hW⟩
      have hln : ((st.take n).reverse.map (kn_v b base)).length = n := by rw [List.length_map, List.length_reverse]; exact htk
      have hw8 : ((rs.map (kn_v b base)).map fun v => v.category).sum ≤ 8 := by rw [kn_cat_map]; exact hcat
      have hG := kn_goodC S hj
      rw [hrt1] at hM hG
      have hk' : ∀ (H1 : Heap) (locs1 : List Loc), kn_Rel cl b base L xs cA D s H1 locs1 (k0 + r.2.2.1) r.2.1 → W p l e R s m args below meth c H1 locs1 (k0 + r.2.2.1) (z0 + r.2.2.2) Q (F0 m (pc + 3) ls ((r.1.map (kn_v b base)).toList ++ rs.map (kn_v b base))) := by
        intro H1 locs1 hR1
        have := hk H1 locs1 ls hR1 hl
        rw [kn_map_opt] at this
        exact this
      cases ne with
      | zero =>
        exact kn_callR (rest := rs.map (kn_v b base)) (va_runI (As := (st.take n).reverse.map (kn_v b base)) ⟨hx, hb, hml, hown, hts⟩ hM ⟨callB_of n hts hG rfl rfl rfl (hts _ (kn_w1_in S g5)) (hts _ (kn_w1_in S g4)) ⟨c4, c5, c6⟩ ⟨Nat.le_trans c1 hfr, Nat.le_trans c2 hlc⟩, hnm1, hts _ (kn_w1_in S g6)⟩ hp rfl hln hl.1 hst (lv_room hw8) hd ⟨hcells, hslots⟩) hS hz hH hk'
      | succ ne =>
        have hnl : va_Nw (.methodLinkNest M.1.cls idx M1.1 "KnotLaw") s := hnw _ (by
          have h9 := of_decide_eq_true g4
          rw [kn_at_eq] at h9
          exact List.mem_of_getElem? h9)
        exact kn_callR (rest := rs.map (kn_v b base)) (va_runIN (As := (st.take n).reverse.map (kn_v b base)) ⟨hx, hb, hml, hown, hts⟩ hM ⟨va_cnB n hts hG rfl rfl rfl hnl (hts _ (kn_w1_in S g5)) ⟨c4, c5, c6⟩ ⟨Nat.le_trans c1 hfr, Nat.le_trans c2 hlc⟩, hnm1, hts _ (kn_w1_in S g6)⟩ hp rfl hln hl.1 hst (lv_room hw8) hd ⟨hcells, hslots⟩) hS hz hH hk'
  · cases hck
theorem kn_Wcall_s (S : kn_St cl Ts Tg Ns T) (C0 : kn_Ctx cl Tg Ns b base L xs cA D M p R s m args meth c) {idx : Nat} {aux pl : List Nat} (hd : decode M.2.1 pc = .ok (.invokestatic idx, 3)) (hck : kn_ckS Ts Ns T M idx aux pl = true) {f1 : kn_F} (hs : kn_cs (pc + 3) aux lo st = some (.inr (.inl (j, as, f1)))) (hj : kn_at T j = some M1)
    {r : Option Value × kn_H × Nat × Nat} (IH : kn_Snd cl Tg Ns b base L xs cA D l M1 (0, lv_args 0 as, []) h r) (hcells : k0 + r.2.2.1 ≤ R.cells) (hslots : z0 + r.2.2.2 ≤ R.slots) (hk : kn_Nx cl b base L xs cA D M.2.2.1 p l e R s m args below meth c Q (f1.1, f1.2.1, r.1.toList ++ f1.2.2) r.2.1 (k0 + r.2.2.1) (z0 + r.2.2.2)) :
    kn_Nx cl b base L xs cA D M.2.2.1 p l e R s m args below meth c Q (pc, lo, st) h k0 z0 := by
  obtain ⟨n, ci, nL, tl, rfl, htk, hcat, hlen, rfl, rfl⟩ := kn_cs_inv hs
  unfold kn_ckS at hck
  split at hck
  · rename_i he
    cases he
  · rename_i he
    simp at he
  · rename_i j' n' ci' nL' ne tl' i1 i2 i3 tl2 he
    obtain ⟨rfl, rfl, rfl, rfl, rfl⟩ : j = j' ∧ n = n' ∧ ci = ci' ∧ nL = nL' ∧ tl = ne :: tl' := by simpa using he
    rw [hj] at hck
    dsimp only at hck
    obtain ⟨g1, g2⟩ := Bool.and_eq_true_iff.mp hck
    obtain ⟨g2, g3⟩ := Bool.and_eq_true_iff.mp g2
    obtain ⟨g3, g4⟩ := Bool.and_eq_true_iff.mp g3
    obtain ⟨c1, c2, rfl, c4, c5, c6⟩ := kn_cc_spec g1
    intro H locs ls hR hl
    refine kn_bound (fun hle => ?_)
    have C0' := C0
    obtain ⟨hx, hb, hr, hml, hown, hts, hnw, hlk, hnm, hK, hX, hbb, hbs, hfr, hlc⟩ := C0
    obtain ⟨rr, rfl, hz, hP, hS⟩ := hR
    have hH := kn_exact hz hP hS hbs hle
    have hM := kn_met S l hbb hj IH hlen
    have hst : st.map (kn_v b base) = ((st.take n).reverse.map (kn_v b base)).reverse ++ (st.drop n).map (kn_v b base) := by
      rw [List.map_reverse, List.reverse_reverse, ← List.map_append, List.take_append_drop]
    have hp : PreS s H (kn_Pc cl Ns b base L xs cA D ((st.take n).reverse) (.inl (.int, L, .inl xs) :: rr)) ((st.take n).reverse.map (kn_v b base)) :=
      ⟨kn_blind S.2.2.2.2.2, fun U hU hW => kn_pre C0' S.2.2.2.2.2 hH hP hS hU hW⟩
    have hln : ((st.take n).reverse.map (kn_v b base)).length = n := by rw [List.length_map, List.length_reverse]; exact htk
    have hw8 : (((st.drop n).map (kn_v b base)).map fun v => v.category).sum ≤ 8 := by rw [kn_cat_map]; exact hcat
    have hk' : ∀ (H1 : Heap) (locs1 : List Loc), kn_Rel cl b base L xs cA D s H1 locs1 (k0 + r.2.2.1) r.2.1 → W p l e R s m args below meth c H1 locs1 (k0 + r.2.2.1) (z0 + r.2.2.2) Q (F0 m (pc + 3) ls ((r.1.map (kn_v b base)).toList ++ (st.drop n).map (kn_v b base))) := by
      intro H1 locs1 hR1
      have := hk H1 locs1 ls hR1 hl
      rw [kn_map_opt] at this
      exact this
    cases ne with
    | zero =>
      exact kn_callR (rest := (st.drop n).map (kn_v b base)) (va_runS (As := (st.take n).reverse.map (kn_v b base)) ⟨hx, hb, hml, hown, hts⟩ hM ⟨callB_of n hts (kn_goodC S hj) rfl rfl rfl (hts _ (kn_w1_in S g3)) (hts _ (kn_w1_in S g2)) ⟨c4, c5, c6⟩ ⟨Nat.le_trans c1 hfr, Nat.le_trans c2 hlc⟩, hts _ (kn_w1_in S g4)⟩ hp rfl hln hl.1 hst (lv_room hw8) hd ⟨hcells, hslots⟩) hS hz hH hk'
    | succ ne =>
      have hnl : va_Nw (.methodLinkNest M.1.cls idx M1.1 "KnotLaw") s := hnw _ (by
        have h9 := of_decide_eq_true g2
        rw [kn_at_eq] at h9
        exact List.mem_of_getElem? h9)
      exact kn_callR (rest := (st.drop n).map (kn_v b base)) (va_runSN (As := (st.take n).reverse.map (kn_v b base)) ⟨hx, hb, hml, hown, hts⟩ hM ⟨va_cnB n hts (kn_goodC S hj) rfl rfl rfl hnl (hts _ (kn_w1_in S g3)) ⟨c4, c5, c6⟩ ⟨Nat.le_trans c1 hfr, Nat.le_trans c2 hlc⟩, hts _ (kn_w1_in S g4), trivial⟩ hp rfl hln hl.1 hst (lv_room hw8) hd ⟨hcells, hslots⟩) hS hz hH hk'
  · cases hck
/-- **every run of the small machine is the JVM's** -/
theorem kn_sound (S : kn_St cl Ts Tg Ns T) (l : Launch) : ∀ (n : Nat) (M : kn_M) (f : kn_F) (h : kn_H) (r : Option Value × kn_H × Nat × Nat), kn_run T n M f h = some r → kn_okM cl Ts Ns T M = true → kn_Snd cl Tg Ns b base L xs cA D l M f h r := by
  intro n
  induction n with
  | zero => intro M f h r hr; cases hr
  | succ n ih =>
    intro M f h r hr hM
    obtain ⟨pc, lo, st⟩ := f
    rw [kn_run] at hr
    split at hr
    · cases hr
    · rename_i i hi
      have hok := kn_okM_at hM hi
      intro p e R s m args below meth c Q k0 z0 C0 hcells hslots hret
      split at hr
      · cases hr
      · rename_i f1 h1 k z hs
        cases hrun : kn_run T n M f1 h1 with
        | none => rw [hrun] at hr; cases hr
        | some r1 =>
          rw [hrun] at hr
          cases hr
          dsimp only at hcells hslots hret
          refine kn_go S C0 hok hs (by omega) (by omega) (ih M f1 h1 r1 hrun hM C0 (by omega) (by omega) ?_)
          intro H locs ls pc1 hR hE
          have hq := hret H locs ls pc1 (by rw [← Nat.add_assoc]; exact hR) hE
          rw [← Nat.add_assoc, ← Nat.add_assoc] at hq
          exact hq
      · rename_i v hs
        cases hr
        intro H locs ls hR hl
        obtain ⟨hd, -⟩ := Bool.and_eq_true_iff.mp hok
        replace hd := of_decide_eq_true hd
        obtain ⟨ins, len, aux, pl⟩ := i
        rcases kn_step_end hs with he | he | he
        · cases he
          obtain ⟨x, rfl, rfl, hrt⟩ := kn_ri_inv hs
          exact hret H locs ls pc hR (Or.inl ⟨x, rfl, hd, hrt⟩)
        · cases he
          replace hs : kn_rl M.2.2.2.1 st = some (.inr (.inr v)) := hs
          unfold kn_rl at hs
          split at hs
          · rename_i x hrt
            cases hs
            exact hret H locs ls pc hR (Or.inr (Or.inl ⟨x, rfl, hd, hrt⟩))
          · cases hs
        · cases he
          replace hs : kn_rv M.2.2.2.1 st = some (.inr (.inr v)) := hs
          unfold kn_rv at hs
          split at hs
          · rename_i hrt
            cases hs
            exact hret H locs ls pc hR (Or.inr (Or.inr ⟨rfl, hd, hrt⟩))
          · cases hs
      · rename_i j as f1 hs
        cases hj : kn_at T j with
        | none => rw [hj] at hr; cases hr
        | some M1 =>
          rw [hj] at hr
          dsimp only at hr
          cases hrun1 : kn_run T n M1 (0, lv_args 0 as, []) h with
          | none => rw [hrun1] at hr; cases hr
          | some r1 =>
            rw [hrun1] at hr
            obtain ⟨v, h1, k, z⟩ := r1
            dsimp only at hr
            cases hrun : kn_run T n M (f1.1, f1.2.1, v.toList ++ f1.2.2) h1 with
            | none => rw [hrun] at hr; cases hr
            | some r2 =>
              rw [hrun] at hr
              cases hr
              dsimp only at hcells hslots hret
              have IH1 : kn_Snd cl Tg Ns b base L xs cA D l M1 (0, lv_args 0 as, []) h (v, h1, k, z) := ih M1 (0, lv_args 0 as, []) h (v, h1, k, z) hrun1 (S.2.1 j M1 hj).2.2
              have IH2 : kn_Snd cl Tg Ns b base L xs cA D l M (f1.1, f1.2.1, v.toList ++ f1.2.2) h1 r2 := ih M (f1.1, f1.2.1, v.toList ++ f1.2.2) h1 r2 hrun hM
              have hk : kn_Nx cl b base L xs cA D M.2.2.1 p l e R s m args below meth c Q (f1.1, f1.2.1, v.toList ++ f1.2.2) h1 (k0 + k) (z0 + z) := by
                refine IH2 C0 (by omega) (by omega) ?_
                intro H locs ls pc1 hR hE
                have hq := hret H locs ls pc1 (by rw [← Nat.add_assoc]; exact hR) hE
                rw [← Nat.add_assoc, ← Nat.add_assoc] at hq
                exact hq
              obtain ⟨hd, ho⟩ := Bool.and_eq_true_iff.mp hok
              replace hd := of_decide_eq_true hd
              obtain ⟨ins, len, aux, pl⟩ := i
              rcases kn_step_call hs with ⟨ix, he⟩ | ⟨ix, he⟩ | ⟨ix, he⟩
              · cases he
                exact kn_Wcall_v S C0 hd ho hs hj IH1 (by dsimp only; omega) (by dsimp only; omega) hk
              · cases he
                cases aux with
                | nil =>
                  exfalso
                  replace hs : kn_ci (pc + 3) [] lo st h = some (.inr (.inl (j, as, f1))) := hs
                  unfold kn_ci at hs
                  dsimp only at hs
                  split at hs
                  · revert hs
                    generalize Nat.ble _ _ = bb
                    cases bb <;> intro hs <;> cases hs
                  · cases hs
                | cons a1 ar => exact kn_Wcall_i S C0 hd ho hs hj IH1 (by dsimp only; omega) (by dsimp only; omega) hk
              · cases he
                cases aux with
                | nil =>
                  exfalso
                  replace hs : kn_copy (pc + 3) lo st h = some (.inr (.inl (j, as, f1))) := hs
                  simp only [kn_copy, kn_to, cond_eq_ite] at hs
                  (repeat' split at hs) <;> simp at hs
                | cons a1 ar =>
                  cases ar with
                  | nil =>
                    exfalso
                    replace hs : kn_mx (pc + 3) lo st h = some (.inr (.inl (j, as, f1))) := hs
                    simp only [kn_mx, kn_to, cond_eq_ite] at hs
                    (repeat' split at hs) <;> simp at hs
                  | cons a2 ar => exact kn_Wcall_s S C0 hd ho hs hj IH1 (by dsimp only; omega) (by dsimp only; omega) hk
end KNS5
