section KNS3
variable {p : Program} {l : Launch} {e : Env} {R : Room} {s : State} {m : MethodId} {args : Array Value} {below : List Frame} {meth : Method} {c : Code} {Q : State → Prop} {k0 z0 : Nat}
variable {cl : List vw_C} {Ts Tg Ns : List Cond} {T : List kn_M} {b base L : Nat} {xs : Nat → Int32} {cA : FieldType → ClassId} {D : va_G} {M : kn_M} {pc : Nat} {lo : List (Nat × Value)} {st : List Value} {h : kn_H}
variable {f1 : kn_F} {h1 : kn_H} {k z : Nat}
/-- a step that stays in the method -/
theorem kn_go (S : kn_St cl Ts Tg Ns T) (C0 : kn_Ctx cl Tg Ns b base L xs cA D M p R s m args meth c) {i : kn_I} (hok : kn_ok cl Ts Ns T M pc i = true) (hs : kn_step M.2.2.1 M.2.2.2.1 i pc lo st h = some (.inl (f1, h1, k, z))) (hcells : k0 + k ≤ R.cells) (hslots : z0 + z ≤ R.slots)
    (hk : kn_Nx cl b base L xs cA D M.2.2.1 p l e R s m args below meth c Q f1 h1 (k0 + k) (z0 + z)) : kn_Nx cl b base L xs cA D M.2.2.1 p l e R s m args below meth c Q (pc, lo, st) h k0 z0 := by
  obtain ⟨ins, len, aux, pl⟩ := i
  obtain ⟨hd, ho⟩ := Bool.and_eq_true_iff.mp hok
  clear hok
  replace hd := of_decide_eq_true hd
  have hx := C0.1
  have hb := C0.2.1
  have hown := C0.2.2.2.2.1
  have hts := C0.2.2.2.2.2.1
  cases ins
  case iconst n => exact kn_W_to (fun hW => lv_iconst hx hb hd rfl hW) hs hk
  case bipush n => exact kn_W_to (fun hW => lv_bipush hx hb hd rfl hW) hs hk
  case sipush n => exact kn_W_to (fun hW => lv_sipush hx hb hd rfl hW) hs hk
  case lconst n => exact kn_W_to (fun hW => lv_lconst hx hb hd rfl hW) hs hk
  case ldc n => exact kn_W_to (fun hW => lv_ldc hx hb hown (hts _ (kn_w1_in S ho)) hd hW) hs hk
  case ldc_w n => exact kn_W_to (fun hW => lv_ldcw hx hb hown (hts _ (kn_w1_in S ho)) hd hW) hs hk
  case ldc2_w n => exact kn_W_to (fun hW => lv_ldc2 hx hb hown (hts _ (kn_w1_in S ho)) hd hW) hs hk
  case aconst_null => exact kn_W_to (fun hW => lv_null hx hb hd hW) hs hk
  case iload_n n => exact kn_W_ldi (fun hl hW => lv_iload_n hx hb hd rfl hl hW) hs hk
  case iload n => exact kn_W_ldi (fun hl hW => lv_iload hx hb hd hl hW) hs hk
  case lload_n n => exact kn_W_ldl (fun hl hW => lv_lload_n hx hb hd rfl hl hW) hs hk
  case lload n => exact kn_W_ldl (fun hl hW => lv_lload hx hb hd hl hW) hs hk
  case aload_n n => exact kn_W_lda (fun hl hW => lv_aload_n hx hb hd rfl hl hW) (fun hl hW => lv_aload_nN hx hb hd rfl hl hW) hs hk
  case aload n => exact kn_W_lda (fun hl hW => lv_aload hx hb hd hl hW) (fun hl hW => lv_aloadN hx hb hd hl hW) hs hk
  case istore_n n => exact kn_W_sti (fun hl hi hW => lv_istore_n hx hb hd rfl hl hi rfl hW) hs hk
  case istore n => exact kn_W_sti (fun hl hi hW => lv_istore hx hb hd hl hi rfl hW) hs hk
  case lstore_n n => exact kn_W_stl (fun hl hi hW => lv_lstore_n hx hb hd rfl hl hi rfl hW) hs hk
  case lstore n => exact kn_W_stl (fun hl hi hW => lv_lstore hx hb hd hl hi rfl hW) hs hk
  case astore_n n => exact kn_W_sta (fun hl hi hW => lv_astore_n hx hb hd rfl hl hi rfl hW) (fun hl hi hW => lv_astore_nN hx hb hd rfl hl hi rfl hW) hs hk
  case astore n => exact kn_W_sta (fun hl hi hW => lv_astore hx hb hd hl hi rfl hW) (fun hl hi hW => lv_astoreN hx hb hd hl hi rfl hW) hs hk
  case iinc i n => exact kn_W_inc (fun hl hj hi hW => lv_iinc hx hb hd hl hj rfl hi rfl hW) hs hk
  case iadd => exact kn_W_ii (fun hW => lv_iadd hx hb hd hW) hs hk
  case isub => exact kn_W_ii (fun hW => lv_isub hx hb hd hW) hs hk
  case imul => exact kn_W_ii (fun hW => lv_imul hx hb hd hW) hs hk
  case iand => exact kn_W_ii (fun hW => lv_iand hx hb hd hW) hs hk
  case ior => exact kn_W_ii (fun hW => lv_ior hx hb hd hW) hs hk
  case ixor => exact kn_W_ii (fun hW => lv_ixor hx hb hd hW) hs hk
  case ishl => exact kn_W_ii (fun hW => lv_ishl hx hb hd hW) hs hk
  case ishr => exact kn_W_ii (fun hW => lv_ishr hx hb hd hW) hs hk
  case iushr => exact kn_W_ii (fun hW => lv_iushr hx hb hd rfl hW) hs hk
  case idiv => exact kn_W_id (fun hn hW => lv_idiv hx hb hd hn hW) hs hk
  case irem => exact kn_W_id (fun hn hW => lv_irem hx hb hd hn hW) hs hk
  case ineg => exact kn_W_1i (fun hW => lv_ineg hx hb hd hW) hs hk
  case i2l => exact kn_W_1i (fun hW => lv_i2l hx hb hd rfl hW) hs hk
  case i2b => exact kn_W_1i (fun hW => lv_i2b hx hb hd rfl hW) hs hk
  case i2s => exact kn_W_1i (fun hW => lv_i2s hx hb hd rfl hW) hs hk
  case i2c => exact kn_W_1i (fun hW => lv_i2c hx hb hd rfl hW) hs hk
  case l2i => exact kn_W_1l (fun hW => lv_l2i hx hb hd rfl hW) hs hk
  case lneg => exact kn_W_1l (fun hW => lv_lneg hx hb hd hW) hs hk
  case ladd => exact kn_W_ll (fun hW => lv_ladd hx hb hd hW) hs hk
  case lsub => exact kn_W_ll (fun hW => lv_lsub hx hb hd hW) hs hk
  case lmul => exact kn_W_ll (fun hW => lv_lmul hx hb hd hW) hs hk
  case land => exact kn_W_ll (fun hW => lv_land hx hb hd hW) hs hk
  case lor => exact kn_W_ll (fun hW => lv_lor hx hb hd hW) hs hk
  case lxor => exact kn_W_ll (fun hW => lv_lxor hx hb hd hW) hs hk
  case ldiv => exact kn_W_ldv (fun hn hW => lv_ldiv hx hb hd hn hW) hs hk
  case lrem => exact kn_W_ldv (fun hn hW => lv_lrem hx hb hd hn hW) hs hk
  case lshl => exact kn_W_li (fun hW => lv_lshl hx hb hd rfl hW) hs hk
  case lshr => exact kn_W_li (fun hW => lv_lshr hx hb hd rfl hW) hs hk
  case lushr => exact kn_W_li (fun hW => lv_lushr hx hb hd rfl hW) hs hk
  case lcmp => exact kn_W_lc (fun hW => W.lcmp hx hb hd hW) hs hk
  case dup => exact kn_W_dup (fun h1 hW => lv_dup hx hb hd h1 hW) hs hk
  case pop => exact kn_W_pop (fun h1 hW => lv_pop hx hb hd h1 hW) hs hk
  case dup_x1 => exact kn_W_dx1 (fun h1 h2 hW => lv_dup_x1 hx hb hd h1 h2 hW) hs hk
  case dup_x2 => exact kn_W_dx2 (fun h1 h2 h3 hW => lv_dup_x2 hx hb hd h1 h2 h3 hW) hs hk
  case dup2 => exact kn_W_d2 (fun h1 h2 hW => lv_dup2_11 hx hb hd h1 h2 hW) hs hk
  case ifCond cnd off => exact kn_W_if hx hb hd (of_decide_eq_true ho) rfl hs hk
  case if_icmp cnd off => exact kn_W_br hx hb hd (of_decide_eq_true ho) rfl hs hk
  case ifnull off => exact kn_W_null hx hb hd (of_decide_eq_true ho) hs hk
  case ifnonnull off => exact kn_W_nonnull hx hb hd (of_decide_eq_true ho) hs hk
  case goto off => exact kn_W_to (fun hW => lv_goto hx hb hd (of_decide_eq_true ho) hW) hs hk
  case tableswitch dflt lo1 hi1 offs =>
    cases aux with
    | nil => cases ho
    | cons d ts =>
      obtain ⟨g1, g2⟩ := Bool.and_eq_true_iff.mp ho
      exact kn_W_tab C0 hd (of_decide_eq_true g1) (of_decide_eq_true g2) hs hk
  case iaload => exact kn_W_ald C0 hd hs hk
  case baload => exact kn_W_bald C0 hd hs hk
  case laload => exact kn_W_lald C0 hd hs hk
  case iastore => exact kn_W_ast C0 hd hs hk
  case bastore => exact kn_W_bast C0 hd hs hk
  case lastore => exact kn_W_last C0 hd hs hk
  case arraylength => exact kn_W_len C0 hd hs hk
  case newarray t => exact kn_W_newa C0 (kn_w1_in S ho) hd hs hcells hslots hk
  case getfield idx =>
    replace ho : kn_ckF cl Ts M.1.cls idx aux pl = true := ho
    unfold kn_ckF at ho
    split at ho
    · rename_i ci fk r1 i1 r2
      split at ho
      · rename_i q hq
        obtain ⟨g1, g2⟩ := Bool.and_eq_true_iff.mp ho
        rw [kn_at_eq] at hq
        exact kn_W_get C0 hq (S.2.2.2.2.1 ci q hq).1 (Nat.le_of_ble_eq_true g1) (Or.inl (kn_w1_in S g2)) hd hs hk
      · cases ho
    · cases ho
  case putfield idx =>
    replace ho : kn_ckP cl Ts M.1 idx aux pl = true := ho
    unfold kn_ckP at ho
    split at ho
    · rename_i ci fk tc r1 i1 r2
      split at ho
      · rename_i q hq
        obtain ⟨g1, g2⟩ := Bool.and_eq_true_iff.mp ho
        obtain ⟨g2, g3⟩ := Bool.and_eq_true_iff.mp g2
        obtain ⟨g3, g4⟩ := Bool.and_eq_true_iff.mp g3
        rw [kn_at_eq] at hq
        obtain ⟨c1, ⟨ty0, c2⟩, c3⟩ := S.2.2.2.2.1 ci q hq
        split at g3
        · rename_i ty hty
          refine kn_W_put C0 hq c1 (Nat.le_of_ble_eq_true g1) ty0 c2 c3 hty (Nat.eq_of_beq_eq_true g3) ?_ hd hs hk
          cases hf : (q.2.1 fk).2.2.2 with
          | false => exact Or.inl ⟨rfl, Or.inl (kn_w1_in S g2)⟩
          | true =>
            rw [hf] at g4
            obtain ⟨g5, g6⟩ := Bool.and_eq_true_iff.mp (show (decide (M.1.name = "<init>") && decide ((q.2.1 fk).1 = M.1.cls)) = true from g4)
            exact Or.inr ⟨rfl, of_decide_eq_true g5, of_decide_eq_true g6, kn_w1_in S g2⟩
        · cases g3
      · cases ho
    · cases ho
  case new idx =>
    replace ho : kn_ckN cl Ts M.1.cls idx aux pl = true := ho
    unfold kn_ckN at ho
    split at ho
    · rename_i ci N tcs i1 i2 i3 r2
      split at ho
      · rename_i q hq
        obtain ⟨g1, g2⟩ := Bool.and_eq_true_iff.mp ho
        obtain ⟨g2, g3⟩ := Bool.and_eq_true_iff.mp g2
        obtain ⟨g3, g4⟩ := Bool.and_eq_true_iff.mp g3
        obtain ⟨g4, g5⟩ := Bool.and_eq_true_iff.mp g4
        obtain ⟨g5, g6⟩ := Bool.and_eq_true_iff.mp g5
        rw [kn_at_eq] at hq
        obtain ⟨c1, ⟨ty0, c2⟩, c3⟩ := S.2.2.2.2.1 ci q hq
        have hN : q.2.2 = N := Nat.eq_of_beq_eq_true g1
        subst hN
        refine kn_W_new C0 hq c1 ty0 c2 (Nat.eq_of_beq_eq_true g2) (fun j hj => ?_) (kn_w1_in S g4) (kn_w1_in S g5) (kn_w1_in S g6) hd hs hcells hslots hk
        have h9 := List.all_eq_true.mp g3 j (List.mem_range.mpr hj)
        rw [c2 j hj] at h9
        obtain ⟨h8, h9⟩ := Bool.and_eq_true_iff.mp h9
        refine ⟨fun q => ?_, Nat.eq_of_beq_eq_true h9⟩
        rw [q] at h8
        cases h8
      · cases ho
    · cases ho
  case invokespecial idx =>
    cases aux with
    | cons a r =>
      exfalso
      replace hs : kn_cv (pc + 3) (a :: r) lo st h = some (.inl (f1, h1, k, z)) := hs
      unfold kn_cv at hs
      split at hs
      · split at hs
        · split at hs
          · rename_i nL _ _ _ _ _ _ _ _ _ _ _ _
            revert hs
            generalize (Nat.beq _ _ && _) = bb
            cases bb <;> intro hs <;> cases hs
          · cases hs
        · cases hs
      · cases hs
    | nil =>
      replace ho : kn_ckI cl Ts Ns T M idx [] pl = true := ho
      unfold kn_ckI at ho
      split at ho
      · rename_i i1 i2 r2
        obtain ⟨g1, g2⟩ := Bool.and_eq_true_iff.mp ho
        obtain ⟨g2, g3⟩ := Bool.and_eq_true_iff.mp g2
        obtain ⟨g3, g4⟩ := Bool.and_eq_true_iff.mp g3
        exact kn_W_obj C0 (kn_w1_in S g1) (kn_w1_in S g2) S.2.2.1.1 (Nat.le_of_ble_eq_true g3) (Nat.le_of_ble_eq_true g4) rfl hd hs hk
      · rename_i he
        cases he
      · cases ho
  case invokestatic idx =>
    cases aux with
    | cons a r =>
      cases r with
      | nil =>
        replace ho : kn_ckS Ts Ns T M idx [a] pl = true := ho
        unfold kn_ckS at ho
        split at ho
        · rename_i he
          cases he
        · rename_i i1 i2 i3 r2 _
          obtain ⟨g1, g2⟩ := Bool.and_eq_true_iff.mp ho
          obtain ⟨g2, g3⟩ := Bool.and_eq_true_iff.mp g2
          obtain ⟨g3, g4⟩ := Bool.and_eq_true_iff.mp g3
          obtain ⟨g4, g5⟩ := Bool.and_eq_true_iff.mp g4
          exact kn_W_max C0 (kn_w1_in S g1) (kn_w1_in S g2) (kn_w1_in S g3) S.2.2.1.2 (Nat.le_of_ble_eq_true g4) (Nat.le_of_ble_eq_true g5) rfl hd hs hcells hslots hk
        · rename_i he
          cases he
        · cases ho
      | cons a2 r =>
        exfalso
        replace hs : kn_cs (pc + 3) (a :: a2 :: r) lo st = some (.inl (f1, h1, k, z)) := hs
        unfold kn_cs at hs
        split at hs
        · revert hs
          generalize (Nat.beq _ _ && _) = bb
          cases bb <;> intro hs <;> cases hs
        · cases hs
    | nil =>
      replace ho : kn_ckS Ts Ns T M idx [] pl = true := ho
      unfold kn_ckS at ho
      split at ho
      · rename_i i1 i2 i3 i4 r2
        obtain ⟨g1, g2⟩ := Bool.and_eq_true_iff.mp ho
        obtain ⟨g2, g3⟩ := Bool.and_eq_true_iff.mp g2
        obtain ⟨g3, g4⟩ := Bool.and_eq_true_iff.mp g3
        obtain ⟨g4, g5⟩ := Bool.and_eq_true_iff.mp g4
        obtain ⟨g5, g6⟩ := Bool.and_eq_true_iff.mp g5
        exact kn_W_copy C0 (kn_w1_in S g1) (kn_w1_in S g2) (kn_w1_in S g3) (kn_w1_in S g4) (Nat.le_of_ble_eq_true g5) (Nat.le_of_ble_eq_true g6) rfl hd hs hk
      · rename_i he
        cases he
      · rename_i he
        cases he
      · cases ho
  case invokevirtual idx =>
    exfalso
    replace hs : kn_cv (pc + 3) aux lo st h = some (.inl (f1, h1, k, z)) := hs
    unfold kn_cv at hs
    split at hs
    · split at hs
      · split at hs
        · revert hs
          generalize (Nat.beq _ _ && _) = bb
          cases bb <;> intro hs <;> cases hs
        · cases hs
      · cases hs
    · cases hs
  case ireturn =>
    exfalso
    replace hs : kn_ri M.2.2.2.1 st = some (.inl (f1, h1, k, z)) := hs
    unfold kn_ri at hs
    split at hs
    · cases hs
    · revert hs
      generalize (_ || _) = bb
      cases bb <;> intro hs <;> cases hs
    · cases hs
  case lreturn =>
    exfalso
    replace hs : kn_rl M.2.2.2.1 st = some (.inl (f1, h1, k, z)) := hs
    unfold kn_rl at hs
    split at hs <;> cases hs
  case return_ =>
    exfalso
    replace hs : kn_rv M.2.2.2.1 st = some (.inl (f1, h1, k, z)) := hs
    unfold kn_rv at hs
    split at hs <;> cases hs
  all_goals (exfalso; cases hs)
end KNS3
