theorem kn_fit_ok {b base tc : Nat} {ty : FieldType} {v : Value} (ht : kn_tc ty = tc) (hf : kn_fit tc v = true) : narrow ty (kn_v b base v) = kn_v b base v ∧ fits ty (kn_v b base v) = true := by
  subst ht
  cases v with
  | int x =>
    cases ty <;> first | exact ⟨rfl, rfl⟩ | (exfalso; exact Bool.false_ne_true hf) | skip
    have hx : (x == 0 || x == 1) = true := hf
    rcases Bool.or_eq_true_iff.mp hx with h | h
    · have e := eq_of_beq h
      subst e
      exact ⟨rfl, rfl⟩
    · have e := eq_of_beq h
      subst e
      exact ⟨rfl, rfl⟩
  | long x => cases ty <;> first | exact ⟨rfl, rfl⟩ | (exfalso; exact Bool.false_ne_true hf)
  | null => cases ty <;> first | exact ⟨rfl, rfl⟩ | (exfalso; exact Bool.false_ne_true hf)
  | ref a => cases ty <;> first | exact ⟨rfl, rfl⟩ | (exfalso; exact Bool.false_ne_true hf)
  | float x => cases hf
  | double x => cases hf
  | retAddr x => cases hf
section KNS2
variable {p : Program} {l : Launch} {e : Env} {R : Room} {s : State} {m : MethodId} {args : Array Value} {below : List Frame} {meth : Method} {c : Code} {Q : State → Prop} {k0 z0 : Nat}
variable {cl : List vw_C} {Tg Ns : List Cond} {b base L : Nat} {xs : Nat → Int32} {cA : FieldType → ClassId} {D : va_G} {M : kn_M} {pc pc1 nL : Nat} {lo : List (Nat × Value)} {st : List Value} {h : kn_H}
variable {f1 : kn_F} {h1 : kn_H} {k z : Nat}
theorem kn_W_get {ci fk idx : Nat} {rest : List Nat} {C : String} {F : u_T} {N : Nat} (C0 : kn_Ctx cl Tg Ns b base L xs cA D M p R s m args meth c) (hc : cl[ci]? = some (C, F, N)) (hin : ∀ w ∈ u_ws C F N, w ∈ Tg) (hkN : fk < N)
    (hw : Cond.fieldLink M.1.cls idx (F fk).1 (F fk).2.1 (F fk).2.2.1 ∈ Tg ∨ ∃ host, Cond.fieldLinkNest M.1.cls idx (F fk).1 (F fk).2.1 (F fk).2.2.1 host ∈ Ns) (hd : decode M.2.1 pc = .ok (.getfield idx, 3))
    (hs : kn_get (pc + 3) (ci :: fk :: rest) lo st h = some (.inl (f1, h1, k, z))) (hk : kn_Nx cl b base L xs cA D nL p l e R s m args below meth c Q f1 h1 (k0 + k) (z0 + z)) : kn_Nx cl b base L xs cA D nL p l e R s m args below meth c Q (pc, lo, st) h k0 z0 := by
  obtain ⟨hx, hb, hr, hml, hown, hts, hns, hlk, hnm, hK, hX, hbb, hbs, hfr, hlc⟩ := C0
  unfold kn_get at hs
  split at hs
  · rename_i a r ci' fk' rest' he
    obtain ⟨rfl, rfl, rfl⟩ : ci = ci' ∧ fk = fk' ∧ rest = rest' := by simpa using he
    split at hs
    · rename_i c' fs hat
      cases hbq : Nat.beq c' ci with
      | false => rw [hbq] at hs; cases hs
      | true =>
        rw [hbq] at hs
        have hce : c' = ci := Nat.eq_of_beq_eq_true hbq
        subst hce
        dsimp only [cond_true] at hs
        split at hs
        · rename_i v hv
          cases hs
          intro H locs ls hR hl
          obtain ⟨rr, rfl, hz, hP, hS⟩ := id hR
          cases a with
          | zero => cases hat
          | succ a =>
            have hat' : kn_at rr a = some (.inr (c', fs)) := hat
            have hv' : (fs.map (kn_v b base))[fk]? = some (kn_v b base v) := by rw [List.getElem?_map, ← kn_at_eq, hv]; rfl
            rcases hw with hw | ⟨host, hw⟩
            · exact va_get hx hb hts hin hown hK hP a (kn_w_get hat') hc fk hkN (hts _ hw) (fun _ h9 => h9) hv' hd (hk H locs ls hR hl)
            · exact va_getN hx hb hts hin hown hK hP a (kn_w_get hat') hc fk hkN (va_Nw.use rfl (hns _ hw)) (fun _ h9 => h9) hv' hd (hk H locs ls hR hl)
        · cases hs
    · cases hs
  · cases hs
/-- a cell's new contents -/
theorem kn_rel_set {H1 : Heap} {locs1 : List Loc} {rr : kn_H} {a : Nat} {x : kn_C} (hz : s.heap.size + k0 = base + rr.length) (hP : va_P D cl ((kn_w (kn_e cA b base) base rr).set a (base + a, kn_e cA b base x)) H1) (hS : va_S (fun q => base ≤ q) s.heap H1 locs1) : kn_Rel cl b base L xs cA D s H1 locs1 k0 ((Sum.inl (.int, L, .inl xs) :: rr).set (a + 1) x) :=
  ⟨rr.set a x, rfl, by rw [List.length_set]; exact hz, by rw [kn_w_set]; exact hP, hS⟩
theorem kn_W_put {ci fk tc idx : Nat} {rest : List Nat} {C : String} {F : u_T} {N : Nat} {ty : FieldType} (C0 : kn_Ctx cl Tg Ns b base L xs cA D M p R s m args meth c) (hc : cl[ci]? = some (C, F, N)) (hin : ∀ w ∈ u_ws C F N, w ∈ Tg) (hkN : fk < N)
    (ty0 : Nat → FieldType) (hty : ∀ k, k < N → parseFieldDescriptor (F k).2.2.1 = some (ty0 k)) (hnmF : ∀ a, a < N → ∀ b, b < N → a ≠ b → (F a).2.1 ≠ (F b).2.1) (htc : parseFieldDescriptor (F fk).2.2.1 = some ty) (htc2 : kn_tc ty = tc)
    (hw : ((F fk).2.2.2 = false ∧ (Cond.fieldLink M.1.cls idx (F fk).1 (F fk).2.1 (F fk).2.2.1 ∈ Tg ∨ ∃ host, Cond.fieldLinkNest M.1.cls idx (F fk).1 (F fk).2.1 (F fk).2.2.1 host ∈ Ns)) ∨ ((F fk).2.2.2 = true ∧ M.1.name = "<init>" ∧ (F fk).1 = M.1.cls ∧ Cond.fieldLink M.1.cls idx (F fk).1 (F fk).2.1 (F fk).2.2.1 ∈ Tg)) (hd : decode M.2.1 pc = .ok (.putfield idx, 3))
    (hs : kn_put (pc + 3) (ci :: fk :: tc :: rest) lo st h = some (.inl (f1, h1, k, z))) (hk : kn_Nx cl b base L xs cA D nL p l e R s m args below meth c Q f1 h1 (k0 + k) (z0 + z)) : kn_Nx cl b base L xs cA D nL p l e R s m args below meth c Q (pc, lo, st) h k0 z0 := by
  obtain ⟨hx, hb, hr, hml, hown, hts, hns, hlk, hnm, hK, hX, hbb, hbs, hfr, hlc⟩ := C0
  unfold kn_put at hs
  split at hs
  · rename_i v a r ci' fk' tc' rest' he
    obtain ⟨rfl, rfl, rfl, rfl⟩ : ci = ci' ∧ fk = fk' ∧ tc = tc' ∧ rest = rest' := by simpa using he
    split at hs
    · rename_i c' fs hat
      cases hbq : Nat.beq c' ci && (Nat.ble (fk + 1) fs.length && kn_fit tc v) with
      | false => rw [hbq] at hs; cases hs
      | true =>
        rw [hbq] at hs
        obtain ⟨q1, q2⟩ := Bool.and_eq_true_iff.mp hbq
        obtain ⟨q2, q3⟩ := Bool.and_eq_true_iff.mp q2
        have hce : c' = ci := Nat.eq_of_beq_eq_true q1
        have hlt : fk < fs.length := Nat.le_of_ble_eq_true q2
        subst hce
        cases hs
        intro H locs ls hR hl
        obtain ⟨rr, rfl, hz, hP, hS⟩ := id hR
        have hat' : kn_at rr a = some (.inr (c', fs)) := hat
        obtain ⟨hn1, hf1⟩ := kn_fit_ok (b := b) (base := base) htc2 q3
        have hD := kn_w_D (kn_e cA b base) rr base
        have hlm : fk < (fs.map (kn_v b base)).length := by rw [List.length_map]; exact hlt
        have key : ∀ (H1 : Heap) (locs1 : List Loc), va_P D cl ((kn_w (kn_e cA b base) base rr).set a (base + a, .inr (c', (fs.map (kn_v b base)).set fk (kn_v b base v)))) H1 → va_S (fun q => base ≤ q) s.heap H1 locs1 → W p l e R s m args below meth c H1 locs1 k0 z0 Q (F0 m (pc + 3) ls (r.map (kn_v b base))) := by
          intro H1 locs1 hP1 hS1
          refine hk H1 locs1 ls (kn_rel_set hz ?_ hS1) hl
          rw [← List.map_set] at hP1
          exact hP1
        rcases hw with ⟨hfin, hw | ⟨host, hw⟩⟩ | ⟨hfin, hin2, hdecl, hw⟩
        · exact va_put hx hb hts hin ty0 hty hnmF hown hK hP hD hS a (kn_w_get hat') hc fk hkN (hts _ hw) (fun _ h9 => h9) hfin htc hn1 hf1 hlm hd (fun H1 locs1 hP1 _ hS1 => key H1 locs1 hP1 hS1)
        · exact va_putN hx hb hts hin ty0 hty hnmF hown hK hP hD hS a (kn_w_get hat') hc fk hkN (va_Nw.use rfl (hns _ hw)) (fun _ h9 => h9) hfin htc hn1 hf1 hlm hd (fun H1 locs1 hP1 _ hS1 => key H1 locs1 hP1 hS1)
        · exact va_putF hx hb hts hin ty0 hty hnmF hown hK hP hD hS a (kn_w_get hat') hc fk hkN (hts _ hw) (fun _ h9 => h9) hfin (hnm hin2) hdecl htc hn1 hf1 hlm hd (fun H1 locs1 hP1 _ hS1 => key H1 locs1 hP1 hS1)
    · cases hs
  · cases hs
theorem kn_W_ald (C0 : kn_Ctx cl Tg Ns b base L xs cA D M p R s m args meth c) (hd : decode M.2.1 pc = .ok (.iaload, 1))
    (hs : kn_ald 0 (pc + 1) lo st h = some (.inl (f1, h1, k, z))) (hk : kn_Nx cl b base L xs cA D nL p l e R s m args below meth c Q f1 h1 (k0 + k) (z0 + z)) : kn_Nx cl b base L xs cA D nL p l e R s m args below meth c Q (pc, lo, st) h k0 z0 := by
  obtain ⟨hx, hb, hr, hml, hown, hts, hns, hlk, hnm, hK, hX, hbb, hbs, hfr, hlc⟩ := C0
  unfold kn_ald at hs
  split at hs
  · rename_i i a r
    split at hs
    · rename_i ty n f hat
      cases hbq : Nat.beq (kn_tc ty) 0 with
      | false => rw [hbq] at hs; cases hs
      | true =>
        rw [hbq] at hs
        dsimp only [cond_true] at hs
        split at hs
        · cases hs
        · rename_i hv
          cases hs
          have hty : ty = .int := by cases ty <;> first | rfl | cases hbq
          subst hty
          intro H locs ls hR hl
          obtain ⟨rr, rfl, hz, hP, hS⟩ := id hR
          cases a with
          | zero =>
            cases hat
            exact va_sld hx hb hX (Nat.lt_of_lt_of_le hbb hbs) (Nat.not_le.mpr hbb) hS hv hd (hk H locs ls hR hl)
          | succ a =>
            have hat' : kn_at rr a = some (.inl (.int, n, .inl f)) := hat
            exact va_iald hx hb hK hP a 0 (kn_w_get hat') rfl hv hd (hk H locs ls hR hl)
    · cases hs
  · cases hs
theorem kn_W_bald (C0 : kn_Ctx cl Tg Ns b base L xs cA D M p R s m args meth c) (hd : decode M.2.1 pc = .ok (.baload, 1))
    (hs : kn_ald 2 (pc + 1) lo st h = some (.inl (f1, h1, k, z))) (hk : kn_Nx cl b base L xs cA D nL p l e R s m args below meth c Q f1 h1 (k0 + k) (z0 + z)) : kn_Nx cl b base L xs cA D nL p l e R s m args below meth c Q (pc, lo, st) h k0 z0 := by
  obtain ⟨hx, hb, hr, hml, hown, hts, hns, hlk, hnm, hK, hX, hbb, hbs, hfr, hlc⟩ := C0
  unfold kn_ald at hs
  split at hs
  · rename_i i a r
    split at hs
    · rename_i ty n f hat
      cases hbq : Nat.beq (kn_tc ty) 2 with
      | false => rw [hbq] at hs; cases hs
      | true =>
        rw [hbq] at hs
        dsimp only [cond_true] at hs
        split at hs
        · cases hs
        · rename_i hv
          cases hs
          have hty : ty = .boolean := by cases ty <;> first | rfl | cases hbq
          subst hty
          intro H locs ls hR hl
          obtain ⟨rr, rfl, hz, hP, hS⟩ := id hR
          cases a with
          | zero => cases hat
          | succ a =>
            have hat' : kn_at rr a = some (.inl (.boolean, n, .inl f)) := hat
            exact va_zald hx hb hK hP a 2 (kn_w_get hat') rfl hv hd (hk H locs ls hR hl)
    · cases hs
  · cases hs
theorem kn_W_lald (C0 : kn_Ctx cl Tg Ns b base L xs cA D M p R s m args meth c) (hd : decode M.2.1 pc = .ok (.laload, 1))
    (hs : kn_lald (pc + 1) lo st h = some (.inl (f1, h1, k, z))) (hk : kn_Nx cl b base L xs cA D nL p l e R s m args below meth c Q f1 h1 (k0 + k) (z0 + z)) : kn_Nx cl b base L xs cA D nL p l e R s m args below meth c Q (pc, lo, st) h k0 z0 := by
  obtain ⟨hx, hb, hr, hml, hown, hts, hns, hlk, hnm, hK, hX, hbb, hbs, hfr, hlc⟩ := C0
  unfold kn_lald at hs
  split at hs
  · rename_i i a r
    split at hs
    · rename_i ty n f hat
      cases hbq : Nat.beq (kn_tc ty) 1 with
      | false => rw [hbq] at hs; cases hs
      | true =>
        rw [hbq] at hs
        dsimp only [cond_true] at hs
        split at hs
        · cases hs
        · rename_i hv
          cases hs
          have hty : ty = .long := by cases ty <;> first | rfl | cases hbq
          subst hty
          intro H locs ls hR hl
          obtain ⟨rr, rfl, hz, hP, hS⟩ := id hR
          have hat' : kn_at rr a = some (.inl (.long, n, .inr (.inl f))) := hat
          exact va_lald hx hb hK hP a 1 (kn_w_get hat') rfl hv hd (hk H locs ls hR hl)
    · cases hs
  · cases hs
theorem kn_W_ast (C0 : kn_Ctx cl Tg Ns b base L xs cA D M p R s m args meth c) (hd : decode M.2.1 pc = .ok (.iastore, 1))
    (hs : kn_ast (pc + 1) lo st h = some (.inl (f1, h1, k, z))) (hk : kn_Nx cl b base L xs cA D nL p l e R s m args below meth c Q f1 h1 (k0 + k) (z0 + z)) : kn_Nx cl b base L xs cA D nL p l e R s m args below meth c Q (pc, lo, st) h k0 z0 := by
  obtain ⟨hx, hb, hr, hml, hown, hts, hns, hlk, hnm, hK, hX, hbb, hbs, hfr, hlc⟩ := C0
  unfold kn_ast at hs
  split at hs
  · rename_i x i a r
    split at hs
    · rename_i ty n f hat
      cases hbq : Nat.beq (kn_tc ty) 0 with
      | false => rw [hbq] at hs; cases hs
      | true =>
        rw [hbq] at hs
        dsimp only [cond_true] at hs
        split at hs
        · cases hs
        · rename_i hv
          cases hs
          have hty : ty = .int := by cases ty <;> first | rfl | cases hbq
          subst hty
          intro H locs ls hR hl
          obtain ⟨rr, rfl, hz, hP, hS⟩ := id hR
          have hat' : kn_at rr a = some (.inl (.int, n, .inl f)) := hat
          exact va_iast hx hb hK hP (kn_w_D (kn_e cA b base) rr base) hS a 0 (kn_w_get hat') rfl hv hd (fun H1 locs1 hP1 _ hS1 => hk H1 locs1 ls (kn_rel_set hz hP1 hS1) hl)
    · cases hs
  · cases hs
theorem kn_W_last (C0 : kn_Ctx cl Tg Ns b base L xs cA D M p R s m args meth c) (hd : decode M.2.1 pc = .ok (.lastore, 1))
    (hs : kn_last (pc + 1) lo st h = some (.inl (f1, h1, k, z))) (hk : kn_Nx cl b base L xs cA D nL p l e R s m args below meth c Q f1 h1 (k0 + k) (z0 + z)) : kn_Nx cl b base L xs cA D nL p l e R s m args below meth c Q (pc, lo, st) h k0 z0 := by
  obtain ⟨hx, hb, hr, hml, hown, hts, hns, hlk, hnm, hK, hX, hbb, hbs, hfr, hlc⟩ := C0
  unfold kn_last at hs
  split at hs
  · rename_i x i a r
    split at hs
    · rename_i ty n f hat
      cases hbq : Nat.beq (kn_tc ty) 1 with
      | false => rw [hbq] at hs; cases hs
      | true =>
        rw [hbq] at hs
        dsimp only [cond_true] at hs
        split at hs
        · cases hs
        · rename_i hv
          cases hs
          have hty : ty = .long := by cases ty <;> first | rfl | cases hbq
          subst hty
          intro H locs ls hR hl
          obtain ⟨rr, rfl, hz, hP, hS⟩ := id hR
          have hat' : kn_at rr a = some (.inl (.long, n, .inr (.inl f))) := hat
          exact va_last hx hb hK hP (kn_w_D (kn_e cA b base) rr base) hS a 1 (kn_w_get hat') rfl hv hd (fun H1 locs1 hP1 _ hS1 => hk H1 locs1 ls (kn_rel_set hz hP1 hS1) hl)
    · cases hs
  · cases hs
theorem kn_W_bast (C0 : kn_Ctx cl Tg Ns b base L xs cA D M p R s m args meth c) (hd : decode M.2.1 pc = .ok (.bastore, 1))
    (hs : kn_bast (pc + 1) lo st h = some (.inl (f1, h1, k, z))) (hk : kn_Nx cl b base L xs cA D nL p l e R s m args below meth c Q f1 h1 (k0 + k) (z0 + z)) : kn_Nx cl b base L xs cA D nL p l e R s m args below meth c Q (pc, lo, st) h k0 z0 := by
  obtain ⟨hx, hb, hr, hml, hown, hts, hns, hlk, hnm, hK, hX, hbb, hbs, hfr, hlc⟩ := C0
  unfold kn_bast at hs
  split at hs
  · rename_i x i a r
    split at hs
    · rename_i ty n f hat
      cases hbq : Nat.beq (kn_tc ty) 2 with
      | false => rw [hbq] at hs; cases hs
      | true =>
        rw [hbq] at hs
        dsimp only [cond_true] at hs
        split at hs
        · cases hs
        · rename_i hv
          cases hs
          have hty : ty = .boolean := by cases ty <;> first | rfl | cases hbq
          subst hty
          intro H locs ls hR hl
          obtain ⟨rr, rfl, hz, hP, hS⟩ := id hR
          have hat' : kn_at rr a = some (.inl (.boolean, n, .inl f)) := hat
          exact va_zast hx hb hK hP (kn_w_D (kn_e cA b base) rr base) hS a 2 (kn_w_get hat') rfl hv hd (fun H1 locs1 hP1 _ hS1 => hk H1 locs1 ls (kn_rel_set hz hP1 hS1) hl)
    · cases hs
  · cases hs
theorem kn_tys_at {ty : FieldType} (h : Nat.ble (kn_tc ty) 2 = true) : ∃ t : Nat, (kn_tys cA)[t]? = some (cA ty, ty) := by
  cases ty <;> first | exact ⟨0, rfl⟩ | exact ⟨1, rfl⟩ | exact ⟨2, rfl⟩ | cases h
theorem kn_W_len (C0 : kn_Ctx cl Tg Ns b base L xs cA D M p R s m args meth c) (hd : decode M.2.1 pc = .ok (.arraylength, 1))
    (hs : kn_len (pc + 1) lo st h = some (.inl (f1, h1, k, z))) (hk : kn_Nx cl b base L xs cA D nL p l e R s m args below meth c Q f1 h1 (k0 + k) (z0 + z)) : kn_Nx cl b base L xs cA D nL p l e R s m args below meth c Q (pc, lo, st) h k0 z0 := by
  obtain ⟨hx, hb, hr, hml, hown, hts, hns, hlk, hnm, hK, hX, hbb, hbs, hfr, hlc⟩ := C0
  unfold kn_len at hs
  split at hs
  · rename_i a r
    split at hs
    · rename_i ty n f hat
      cases hbq : Nat.ble (kn_tc ty) 2 with
      | false => rw [hbq] at hs; cases hs
      | true =>
        rw [hbq] at hs
        cases hs
        intro H locs ls hR hl
        obtain ⟨rr, rfl, hz, hP, hS⟩ := id hR
        cases a with
        | zero =>
          cases hat
          exact va_slen hx hb hX (Nat.lt_of_lt_of_le hbb hbs) (Nat.not_le.mpr hbb) hS hd (hk H locs ls hR hl)
        | succ a =>
          have hat' : kn_at rr a = some (.inl (ty, n, f)) := hat
          obtain ⟨t, ht⟩ := kn_tys_at (cA := cA) hbq
          exact va_alen hx hb hK hP a t (kn_w_get hat') ht rfl hd (hk H locs ls hR hl)
    · cases hs
  · cases hs
/-- a cell more: it lies behind all others -/
theorem kn_newest {rr : kn_H} {q : Nat} {x : va_E} {H1 : Heap} {E : kn_C → va_E} (hP : va_P D cl (kn_w E base rr ++ [(q, x)]) H1) (hD : va_D (fun q => base ≤ q) (kn_w E base rr ++ [(q, x)])) (hz : H1.size ≤ base + rr.length + 1) : q = base + rr.length := by
  have hlast : (kn_w E base rr ++ [(q, x)])[rr.length]? = some (q, x) := by
    rw [List.getElem?_append_right (by rw [kn_w_len]; exact Nat.le_refl _), kn_w_len, Nat.sub_self]; rfl
  have h1 : q < H1.size := (hP _ _ hlast).lt
  have h2 : base ≤ q := hD.2 _ _ hlast
  rcases Nat.lt_or_ge (q - base) rr.length with hlt | hge
  · exfalso
    have hs : ∃ y, kn_at rr (q - base) = some y := by
      rw [kn_at_eq]
      exact ⟨_, List.getElem?_eq_getElem hlt⟩
    obtain ⟨y, hy⟩ := hs
    have hi : (kn_w E base rr ++ [(q, x)])[q - base]? = some (base + (q - base), E y) := by
      rw [List.getElem?_append_left (by rw [kn_w_len]; exact hlt)]
      exact kn_w_get hy
    have := hD.1 _ _ _ _ hi hlast (by show base + (q - base) = q; omega)
    omega
  · omega
theorem kn_dv_ok {ty : FieldType} (h : kn_tc ty ≠ 9) : defaultValue ty = kn_dv (kn_tc ty) := by
  cases ty <;> first | rfl | exact absurd rfl h
theorem kn_W_new {ci idx N : Nat} {tcs : List Nat} {C : String} {F : u_T} (C0 : kn_Ctx cl Tg Ns b base L xs cA D M p R s m args meth c) (hc : cl[ci]? = some (C, F, N)) (hin : ∀ w ∈ u_ws C F N, w ∈ Tg)
    (ty0 : Nat → FieldType) (hty : ∀ k, k < N → parseFieldDescriptor (F k).2.2.1 = some (ty0 k)) (htl : tcs.length = N) (htc : ∀ j, j < N → kn_tc (ty0 j) ≠ 9 ∧ tcs.getD j 9 = kn_tc (ty0 j))
    (hw1 : Cond.classLink M.1.cls idx C ∈ Tg) (hw2 : Cond.instantiable C N ∈ Tg) (hw3 : Cond.initialized C ∈ Tg) (hd : decode M.2.1 pc = .ok (.new idx, 3))
    (hs : kn_new (pc + 3) (ci :: N :: tcs) lo st h = some (.inl (f1, h1, k, z))) (hcells : k0 + k ≤ R.cells) (hslots : z0 + z ≤ R.slots) (hk : kn_Nx cl b base L xs cA D nL p l e R s m args below meth c Q f1 h1 (k0 + k) (z0 + z)) : kn_Nx cl b base L xs cA D nL p l e R s m args below meth c Q (pc, lo, st) h k0 z0 := by
  obtain ⟨hx, hb, hr, hml, hown, hts, hns, hlk, hnm, hK, hX, hbb, hbs, hfr, hlc⟩ := C0
  cases hs
  intro H locs ls hR hl
  obtain ⟨rr, rfl, hz, hP, hS⟩ := id hR
  refine va_new (fs := (tcs.map kn_dv).map (kn_v b base)) hx hb hts hin ty0 hty hown (hts _ hw1) (hts _ hw2) (hts _ hw3) hK hP (kn_w_D (kn_e cA b base) rr base) hS (fun q hq => Nat.le_trans hbs hq) hc ?_ hcells hslots hd (fun q H1 hP1 hD1 hS1 => ?_)
  · intro j hj
    obtain ⟨g1, g2⟩ := htc j hj
    rw [kn_dv_ok g1, ← g2]
    have hjl : j < tcs.length := by rw [htl]; exact hj
    simp only [vp_V, List.getD_eq_getElem?_getD, List.getElem?_map, List.getElem?_eq_getElem hjl, Option.map_some, Option.getD_some]
    generalize tcs[j] = t
    unfold kn_dv
    split <;> rfl
  · refine kn_bound (fun hle => ?_)
    have hq : q = base + rr.length := kn_newest hP1 hD1 (by omega)
    subst hq
    have hg := hk H1 locs ls ⟨rr ++ [.inr (ci, tcs.map kn_dv)], rfl, by rw [List.length_append, ← Nat.add_assoc, hz]; rfl, by rw [kn_w_app]; exact hP1, hS1⟩ hl
    exact hg
theorem kn_W_newa {t : ArrayType} (C0 : kn_Ctx cl Tg Ns b base L xs cA D M p R s m args meth c) (hw : Cond.arrayClass (newarray.typeOf t) ∈ Tg) (hd : decode M.2.1 pc = .ok (.newarray t, 2))
    (hs : kn_newa t (pc + 2) lo st h = some (.inl (f1, h1, k, z))) (hcells : k0 + k ≤ R.cells) (hslots : z0 + z ≤ R.slots) (hk : kn_Nx cl b base L xs cA D nL p l e R s m args below meth c Q f1 h1 (k0 + k) (z0 + z)) : kn_Nx cl b base L xs cA D nL p l e R s m args below meth c Q (pc, lo, st) h k0 z0 := by
  obtain ⟨hx, hb, hr, hml, hown, hts, hns, hlk, hnm, hK, hX, hbb, hbs, hfr, hlc⟩ := C0
  unfold kn_newa at hs
  split at hs
  · rename_i n r
    split at hs
    · cases hs
    · rename_i hn
      have hn1 : ¬ n < 0 := fun q => hn (Or.inl q)
      have hn2 : n.toNatClampNeg ≤ 1000000 := Nat.not_lt.mp (fun q => hn (Or.inr q))
      have key : ∀ (ty : FieldType) (tix : Nat) (a0 : vp_A), newarray.typeOf t = ty → (kn_tys cA)[tix]? = some (cA ty, ty) → va_RA s (cA ty) ty = (s.vm.findClass ("[" ++ ty.toString) = some (cA ty)) → (∀ x, va_RA s x ty = (s.vm.findClass ("[" ++ ty.toString) = some x)) → (∀ x : ClassId, vp_cell x a0 = arrV x n.toNatClampNeg (fun _ => defaultValue ty)) → componentBytes ty ≤ 8 →
          f1 = (pc + 2, lo, .ref h.length :: r) → h1 = h ++ [.inl (ty, a0)] → k = 1 → z = n.toNatClampNeg → kn_Nx cl b base L xs cA D nL p l e R s m args below meth c Q (pc, lo, .int n :: r) h k0 z0 := by
        intro ty tix a0 hty htx _ hra ha0 hcb e1 e2 e3 e4
        subst e1 e2 e3 e4
        intro H locs ls hR hl
        obtain ⟨rr, rfl, hz, hP, hS⟩ := id hR
        refine va_newa hx hb (hts _ hw) hty hK hP (kn_w_D (kn_e cA b base) rr base) hS (fun q hq => Nat.le_trans hbs hq) ha0 hn1 rfl (Nat.le_trans (Nat.mul_le_mul hn2 hcb) (by decide)) hcells hslots hd (fun q cx H1 hK1 hP1 hD1 hS1 => ?_)
        refine kn_bound (fun hle => ?_)
        have hq : q = base + rr.length := kn_newest hP1 hD1 (by omega)
        have h5 := (hK.2 tix _ htx).2
        have h6 : va_RA s cx ty := (hK1.2 (kn_tys cA).length (cx, ty) (by rw [List.getElem?_append_right (Nat.le_refl _), Nat.sub_self]; rfl)).2
        rw [hra] at h5 h6
        have hcx : cx = cA ty := Option.some.inj (h6.symm.trans h5)
        subst hq hcx
        have hg := hk H1 locs ls ⟨rr ++ [.inl (ty, a0)], rfl, by rw [List.length_append, ← Nat.add_assoc, hz]; rfl, by rw [kn_w_app]; exact hP1, hS1⟩ hl
        exact hg
      cases t <;> first | (cases hs; done) | skip
      · cases hs
        exact key .boolean 2 (n.toNatClampNeg, .inl (fun _ => 0)) rfl rfl rfl (fun _ => rfl) (fun _ => rfl) (by decide) rfl rfl rfl rfl
      · cases hs
        exact key .int 0 (n.toNatClampNeg, .inl (fun _ => 0)) rfl rfl rfl (fun _ => rfl) (fun _ => rfl) (by decide) rfl rfl rfl rfl
      · cases hs
        exact key .long 1 (n.toNatClampNeg, .inr (.inl (fun _ => 0))) rfl rfl rfl (fun _ => rfl) (fun _ => rfl) (by decide) rfl rfl rfl rfl
  · cases hs
theorem kn_W_copy {idx : Nat} (C0 : kn_Ctx cl Tg Ns b base L xs cA D M p R s m args meth c) (hw1 : Cond.methodLink M.1.cls idx arraycopyName ∈ Tg) (hw2 : Cond.native arraycopyName ∈ Tg) (hw3 : Cond.static arraycopyName ∈ Tg) (hw4 : Cond.initialized "java/lang/System" ∈ Tg) (hfr1 : 1 ≤ M.2.2.2.2.1.1) (hlc1 : 8 + (nativeFrameWords "java/lang/System" "arraycopy" 5 + 11) ≤ M.2.2.2.2.1.2) (hnL : nL = M.2.2.1) (hd : decode M.2.1 pc = .ok (.invokestatic idx, 3))
    (hs : kn_copy (pc + 3) lo st h = some (.inl (f1, h1, k, z))) (hk : kn_Nx cl b base L xs cA D nL p l e R s m args below meth c Q f1 h1 (k0 + k) (z0 + z)) : kn_Nx cl b base L xs cA D nL p l e R s m args below meth c Q (pc, lo, st) h k0 z0 := by
  obtain ⟨hx, hb, hr, hml, hown, hts, hns, hlk, hnm, hK, hX, hbb, hbs, hfr, hlc⟩ := C0
  unfold kn_copy at hs
  split at hs
  · rename_i n dp a sp b' r
    split at hs
    · rename_i t0 n0 f t1 n1 g hb0 ha0
      cases hbq : Nat.beq (kn_tc t0) 0 && (Nat.beq (kn_tc t1) 0 && Nat.ble (kn_cat r) 8) with
      | false => rw [hbq] at hs; cases hs
      | true =>
        rw [hbq] at hs
        dsimp only [cond_true] at hs
        obtain ⟨q1, q2⟩ := Bool.and_eq_true_iff.mp hbq
        obtain ⟨q2, q3⟩ := Bool.and_eq_true_iff.mp q2
        have e0 : t0 = .int := by cases t0 <;> first | rfl | cases q1
        have e1 : t1 = .int := by cases t1 <;> first | rfl | cases q2
        subst e0 e1
        split at hs
        · cases hs
        · rename_i hn
          cases hs
          intro H locs ls hR hl
          obtain ⟨rr, rfl, hz, hP, hS⟩ := id hR
          have hb' : kn_at rr b' = some (.inl (.int, n0, .inl f)) := hb0
          have ha' : kn_at rr a = some (.inl (.int, n1, .inl g)) := ha0
          have h8 : kn_cat r ≤ 8 := Nat.le_of_ble_eq_true q3
          refine va_copyi hx hb (hml.trans (hnL ▸ hl.1).symm) hown (hts _ hw1) (hts _ hw2) (hts _ hw3) (hts _ hw4) hK hP (kn_w_D (kn_e cA b base) rr base) hS b' a 0 0 (kn_w_get hb') (kn_w_get ha') rfl rfl rfl (fun q => hn (Or.inl q)) (fun q => hn (Or.inr (Or.inl q))) (fun q => hn (Or.inr (Or.inr (Or.inl q)))) (Nat.not_lt.mp (fun q => hn (Or.inr (Or.inr (Or.inr (Or.inl q)))))) (Nat.not_lt.mp (fun q => hn (Or.inr (Or.inr (Or.inr (Or.inr q)))))) (fun _ _ => rfl) (Nat.le_trans hfr1 hfr) ?_ hd (fun H1 locs1 hP1 _ hS1 => hk H1 locs1 ls (kn_rel_set hz hP1 hS1) hl)
          rw [kn_cat_map]
          exact Nat.le_trans (Nat.add_le_add_right h8 _) (Nat.le_trans hlc1 hlc)
    · rename_i t0 n0 f t1 n1 g hb0 ha0
      cases hbq : Nat.beq (kn_tc t0) 1 && (Nat.beq (kn_tc t1) 1 && Nat.ble (kn_cat r) 8) with
      | false => rw [hbq] at hs; cases hs
      | true =>
        rw [hbq] at hs
        dsimp only [cond_true] at hs
        obtain ⟨q1, q2⟩ := Bool.and_eq_true_iff.mp hbq
        obtain ⟨q2, q3⟩ := Bool.and_eq_true_iff.mp q2
        have e0 : t0 = .long := by cases t0 <;> first | rfl | cases q1
        have e1 : t1 = .long := by cases t1 <;> first | rfl | cases q2
        subst e0 e1
        split at hs
        · cases hs
        · rename_i hn
          cases hs
          intro H locs ls hR hl
          obtain ⟨rr, rfl, hz, hP, hS⟩ := id hR
          have hb' : kn_at rr b' = some (.inl (.long, n0, .inr (.inl f))) := hb0
          have ha' : kn_at rr a = some (.inl (.long, n1, .inr (.inl g))) := ha0
          have h8 : kn_cat r ≤ 8 := Nat.le_of_ble_eq_true q3
          refine va_copyl hx hb (hml.trans (hnL ▸ hl.1).symm) hown (hts _ hw1) (hts _ hw2) (hts _ hw3) (hts _ hw4) hK hP (kn_w_D (kn_e cA b base) rr base) hS b' a 1 1 (kn_w_get hb') (kn_w_get ha') rfl rfl rfl (fun q => hn (Or.inl q)) (fun q => hn (Or.inr (Or.inl q))) (fun q => hn (Or.inr (Or.inr (Or.inl q)))) (Nat.not_lt.mp (fun q => hn (Or.inr (Or.inr (Or.inr (Or.inl q)))))) (Nat.not_lt.mp (fun q => hn (Or.inr (Or.inr (Or.inr (Or.inr q)))))) (fun _ _ => rfl) (Nat.le_trans hfr1 hfr) ?_ hd (fun H1 locs1 hP1 _ hS1 => hk H1 locs1 ls (kn_rel_set hz hP1 hS1) hl)
          rw [kn_cat_map]
          exact Nat.le_trans (Nat.add_le_add_right h8 _) (Nat.le_trans hlc1 hlc)
    · cases hs
  · cases hs
theorem kn_W_max {idx : Nat} (C0 : kn_Ctx cl Tg Ns b base L xs cA D M p R s m args meth c) (hw1 : Cond.methodLink M.1.cls idx Lib.Math.max.name ∈ Tg) (hw2 : Cond.static Lib.Math.max.name ∈ Tg) (hw3 : Cond.initialized "java/lang/Math" ∈ Tg) (hw4 : Cond.code Lib.Math.max.name Lib.Math.max.code 2 (some .int) ∈ Tg) (hfr1 : 1 ≤ M.2.2.2.2.1.1) (hlc1 : 21 ≤ M.2.2.2.2.1.2) (hnL : nL = M.2.2.1) (hd : decode M.2.1 pc = .ok (.invokestatic idx, 3))
    (hs : kn_mx (pc + 3) lo st h = some (.inl (f1, h1, k, z))) (hcells : k0 + k ≤ R.cells) (hslots : z0 + z ≤ R.slots) (hk : kn_Nx cl b base L xs cA D nL p l e R s m args below meth c Q f1 h1 (k0 + k) (z0 + z)) : kn_Nx cl b base L xs cA D nL p l e R s m args below meth c Q (pc, lo, st) h k0 z0 := by
  obtain ⟨hx, hb, hr, hml, hown, hts, hns, hlk, hnm, hK, hX, hbb, hbs, hfr, hlc⟩ := C0
  unfold kn_mx at hs
  split at hs
  · rename_i y x r
    cases hbq : Nat.ble (kn_cat r) 8 with
    | false => rw [hbq] at hs; cases hs
    | true =>
      rw [hbq] at hs
      cases hs
      intro H locs ls hR hl
      have h8 : kn_cat r ≤ 8 := Nat.le_of_ble_eq_true hbq
      refine va_mmax (rest := r.map (kn_v b base)) hx hb (hml.trans (hnL ▸ hl.1).symm) hown (hts _ hw1) (hts _ hw2) (hts _ hw3) (hts _ hw4) (Nat.le_trans hfr1 hfr) ?_ hcells hslots hd (hk H locs ls hR hl)
      rw [kn_cat_map]
      omega
  · cases hs
theorem kn_W_obj {idx : Nat} (C0 : kn_Ctx cl Tg Ns b base L xs cA D M p R s m args meth c) (hw1 : Cond.methodLink M.1.cls idx Lib.objectInit ∈ Tg) (hw2 : Cond.instanceMethod Lib.objectInit ∈ Tg) (hw3 : Cond.code Lib.objectInit ⟨#[0xb1]⟩ 1 none ∈ Tg) (hfr1 : 1 ≤ M.2.2.2.2.1.1) (hlc1 : 20 ≤ M.2.2.2.2.1.2) (hnL : nL = M.2.2.1) (hd : decode M.2.1 pc = .ok (.invokespecial idx, 3))
    (hs : kn_ci (pc + 3) [] lo st h = some (.inl (f1, h1, k, z))) (hk : kn_Nx cl b base L xs cA D nL p l e R s m args below meth c Q f1 h1 (k0 + k) (z0 + z)) : kn_Nx cl b base L xs cA D nL p l e R s m args below meth c Q (pc, lo, st) h k0 z0 := by
  obtain ⟨hx, hb, hr, hml, hown, hts, hns, hlk, hnm, hK, hX, hbb, hbs, hfr, hlc⟩ := C0
  unfold kn_ci at hs
  dsimp only at hs
  split at hs
  · rename_i a r
    cases hbq : Nat.ble (kn_cat r) 8 with
    | false => rw [hbq] at hs; cases hs
    | true =>
      rw [hbq] at hs
      cases hs
      intro H locs ls hR hl
      have h8 : kn_cat r ≤ 8 := Nat.le_of_ble_eq_true hbq
      refine W.objInit (g := F0 m pc ls (.ref (kn_ad b base a) :: r.map (kn_v b base))) hx hb hown (hts _ hw1) (hts _ hw2) (hts _ hw3) rfl (by rw [hml, ← hnL]; exact hl.1) rfl hd (Nat.le_trans hfr1 hfr) ?_ (hk H locs ls hR hl)
      rw [kn_cat_map]
      have h0 : (F0 m pc ls (.ref (kn_ad b base a) :: r.map (kn_v b base))).monitorRoom = 0 := rfl
      rw [h0]
      omega
  · cases hs
theorem kn_W_tab {dflt lo1 hi1 : Int} {offs : Array Int} {len t : Nat} {ts : List Nat} (C0 : kn_Ctx cl Tg Ns b base L xs cA D M p R s m args meth c) (hd : decode M.2.1 pc = .ok (.tableswitch dflt lo1 hi1 offs, len)) (ht : (pc : Int) + dflt = (t : Int)) (hts2 : offs.toList.map (fun o => (pc : Int) + o) = ts.map (fun x : Nat => (x : Int)))
    (hs : kn_tab lo1 hi1 (t :: ts) lo st h = some (.inl (f1, h1, k, z))) (hk : kn_Nx cl b base L xs cA D nL p l e R s m args below meth c Q f1 h1 (k0 + k) (z0 + z)) : kn_Nx cl b base L xs cA D nL p l e R s m args below meth c Q (pc, lo, st) h k0 z0 := by
  obtain ⟨hx, hb, hr, hml, hown, hts, hns, hlk, hnm, hK, hX, hbb, hbs, hfr, hlc⟩ := C0
  unfold kn_tab at hs
  split at hs
  · rename_i x r d ts' he
    obtain ⟨rfl, rfl⟩ : t = d ∧ ts = ts' := by simpa using he
    split at hs
    · rename_i ho
      cases hs
      intro H locs ls hR hl
      exact lv_tableOut hx hb hd ho ht (hk H locs ls hR hl)
    · rename_i ho
      split at hs
      · rename_i tg htg
        cases hs
        intro H locs ls hR hl
        have h5 : (offs.toList.map (fun o => (pc : Int) + o))[(x.toInt - lo1).toNat]? = some (tg : Int) := by
          rw [hts2, List.getElem?_map, ← kn_at_eq, htg]; rfl
        rw [List.getElem?_map] at h5
        cases h6 : offs.toList[(x.toInt - lo1).toNat]? with
        | none => rw [h6] at h5; cases h5
        | some off =>
          rw [h6] at h5
          have h7 : (pc : Int) + off = (tg : Int) := Option.some.inj h5
          exact lv_tableIn hx hb hd (fun q => ho (Or.inl q)) (fun q => ho (Or.inr q)) (by rw [← Array.getElem?_toList]; exact h6) h7 (hk H locs ls hR hl)
      · cases hs
  · cases hs
end KNS2
