section KNS1
variable {p : Program} {l : Launch} {e : Env} {R : Room} {s : State} {m : MethodId} {args : Array Value} {below : List Frame} {meth : Method} {c : Code} {Q : State → Prop} {k0 z0 : Nat}
variable {cl : List vw_C} {Tg Ns : List Cond} {b base L : Nat} {xs : Nat → Int32} {cA : FieldType → ClassId} {D : va_G} {M : kn_M} {pc pc1 nL : Nat} {lo : List (Nat × Value)} {st : List Value} {h : kn_H}
variable {f1 : kn_F} {h1 : kn_H} {k z : Nat}
theorem kn_W_to {st1 : List Value} (row : ∀ {H : Heap} {locs : List Loc} {ls : Array Slot}, W p l e R s m args below meth c H locs k0 z0 Q (F0 m pc1 ls (st1.map (kn_v b base))) → W p l e R s m args below meth c H locs k0 z0 Q (F0 m pc ls (st.map (kn_v b base))))
    (hs : kn_to pc1 lo st1 h = some (.inl (f1, h1, k, z))) (hk : kn_Nx cl b base L xs cA D nL p l e R s m args below meth c Q f1 h1 (k0 + k) (z0 + z)) : kn_Nx cl b base L xs cA D nL p l e R s m args below meth c Q (pc, lo, st) h k0 z0 := by
  cases hs
  intro H locs ls hR hl
  exact row (hk H locs ls hR hl)
theorem kn_W_ldi {i : Nat} (row : ∀ {H : Heap} {locs : List Loc} {ls : Array Slot} {x : Int32} {rest : List Value}, ls[i]? = some (.val (.int x)) → W p l e R s m args below meth c H locs k0 z0 Q (F0 m pc1 ls (.int x :: rest)) → W p l e R s m args below meth c H locs k0 z0 Q (F0 m pc ls rest))
    (hs : kn_ldi pc1 lo i st h = some (.inl (f1, h1, k, z))) (hk : kn_Nx cl b base L xs cA D nL p l e R s m args below meth c Q f1 h1 (k0 + k) (z0 + z)) : kn_Nx cl b base L xs cA D nL p l e R s m args below meth c Q (pc, lo, st) h k0 z0 := by
  unfold kn_ldi at hs
  split at hs
  · rename_i x hx
    cases hs
    intro H locs ls hR hl
    exact row (kn_ld_at hl hx) (hk H locs ls hR hl)
  · cases hs
theorem kn_W_ldl {i : Nat} (row : ∀ {H : Heap} {locs : List Loc} {ls : Array Slot} {x : Int64} {rest : List Value}, ls[i]? = some (.val (.long x)) → W p l e R s m args below meth c H locs k0 z0 Q (F0 m pc1 ls (.long x :: rest)) → W p l e R s m args below meth c H locs k0 z0 Q (F0 m pc ls rest))
    (hs : kn_ldl pc1 lo i st h = some (.inl (f1, h1, k, z))) (hk : kn_Nx cl b base L xs cA D nL p l e R s m args below meth c Q f1 h1 (k0 + k) (z0 + z)) : kn_Nx cl b base L xs cA D nL p l e R s m args below meth c Q (pc, lo, st) h k0 z0 := by
  unfold kn_ldl at hs
  split at hs
  · rename_i x hx
    cases hs
    intro H locs ls hR hl
    exact row (kn_ld_at hl hx) (hk H locs ls hR hl)
  · cases hs
theorem kn_W_lda {i : Nat} (row : ∀ {H : Heap} {locs : List Loc} {ls : Array Slot} {x : Nat} {rest : List Value}, ls[i]? = some (.val (.ref x)) → W p l e R s m args below meth c H locs k0 z0 Q (F0 m pc1 ls (.ref x :: rest)) → W p l e R s m args below meth c H locs k0 z0 Q (F0 m pc ls rest))
    (rowN : ∀ {H : Heap} {locs : List Loc} {ls : Array Slot} {rest : List Value}, ls[i]? = some (.val .null) → W p l e R s m args below meth c H locs k0 z0 Q (F0 m pc1 ls (.null :: rest)) → W p l e R s m args below meth c H locs k0 z0 Q (F0 m pc ls rest))
    (hs : kn_lda pc1 lo i st h = some (.inl (f1, h1, k, z))) (hk : kn_Nx cl b base L xs cA D nL p l e R s m args below meth c Q f1 h1 (k0 + k) (z0 + z)) : kn_Nx cl b base L xs cA D nL p l e R s m args below meth c Q (pc, lo, st) h k0 z0 := by
  unfold kn_lda at hs
  split at hs
  · rename_i x hx
    cases hs
    intro H locs ls hR hl
    exact row (kn_ld_at hl hx) (hk H locs ls hR hl)
  · rename_i hx
    cases hs
    intro H locs ls hR hl
    exact rowN (kn_ld_at hl hx) (hk H locs ls hR hl)
  · cases hs
theorem kn_W_sti {i : Nat} (row : ∀ {H : Heap} {locs : List Loc} {ls : Array Slot} {x : Int32} {rest : List Value} {lv : List (Nat × Value)}, lv_has ls nL lv → i < nL → (∀ ls', lv_has ls' nL ((i, Value.int x) :: lv.filter (fun q => !(q.1 == i) && !(q.1 + 1 == i && q.2.category == 2))) → W p l e R s m args below meth c H locs k0 z0 Q (F0 m pc1 ls' rest)) → W p l e R s m args below meth c H locs k0 z0 Q (F0 m pc ls (.int x :: rest)))
    (hs : kn_sti nL pc1 lo i st h = some (.inl (f1, h1, k, z))) (hk : kn_Nx cl b base L xs cA D nL p l e R s m args below meth c Q f1 h1 (k0 + k) (z0 + z)) : kn_Nx cl b base L xs cA D nL p l e R s m args below meth c Q (pc, lo, st) h k0 z0 := by
  unfold kn_sti at hs
  split at hs
  · rename_i x r
    cases hc : Nat.ble (i + 1) nL with
    | false => rw [hc] at hs; cases hs
    | true =>
      rw [hc] at hs
      cases hs
      intro H locs ls hR hl
      exact row hl (Nat.le_of_ble_eq_true hc) (fun ls' hl' => hk H locs ls' hR (by rw [kn_vs_s1]; exact hl'))
  · cases hs
theorem kn_W_stl {i : Nat} (row : ∀ {H : Heap} {locs : List Loc} {ls : Array Slot} {x : Int64} {rest : List Value} {lv : List (Nat × Value)}, lv_has ls nL lv → i + 1 < nL → (∀ ls', lv_has ls' nL ((i, Value.long x) :: lv.filter (fun q => !(q.1 == i) && (!(q.1 == i + 1) && !(q.1 + 1 == i && q.2.category == 2)))) → W p l e R s m args below meth c H locs k0 z0 Q (F0 m pc1 ls' rest)) → W p l e R s m args below meth c H locs k0 z0 Q (F0 m pc ls (.long x :: rest)))
    (hs : kn_stl nL pc1 lo i st h = some (.inl (f1, h1, k, z))) (hk : kn_Nx cl b base L xs cA D nL p l e R s m args below meth c Q f1 h1 (k0 + k) (z0 + z)) : kn_Nx cl b base L xs cA D nL p l e R s m args below meth c Q (pc, lo, st) h k0 z0 := by
  unfold kn_stl at hs
  split at hs
  · rename_i x r
    cases hc : Nat.ble (i + 2) nL with
    | false => rw [hc] at hs; cases hs
    | true =>
      rw [hc] at hs
      cases hs
      intro H locs ls hR hl
      exact row hl (Nat.le_of_ble_eq_true hc) (fun ls' hl' => hk H locs ls' hR (by rw [kn_vs_s2]; exact hl'))
  · cases hs
theorem kn_W_sta {i : Nat} (row : ∀ {H : Heap} {locs : List Loc} {ls : Array Slot} {x : Nat} {rest : List Value} {lv : List (Nat × Value)}, lv_has ls nL lv → i < nL → (∀ ls', lv_has ls' nL ((i, Value.ref x) :: lv.filter (fun q => !(q.1 == i) && !(q.1 + 1 == i && q.2.category == 2))) → W p l e R s m args below meth c H locs k0 z0 Q (F0 m pc1 ls' rest)) → W p l e R s m args below meth c H locs k0 z0 Q (F0 m pc ls (.ref x :: rest)))
    (rowN : ∀ {H : Heap} {locs : List Loc} {ls : Array Slot} {rest : List Value} {lv : List (Nat × Value)}, lv_has ls nL lv → i < nL → (∀ ls', lv_has ls' nL ((i, Value.null) :: lv.filter (fun q => !(q.1 == i) && !(q.1 + 1 == i && q.2.category == 2))) → W p l e R s m args below meth c H locs k0 z0 Q (F0 m pc1 ls' rest)) → W p l e R s m args below meth c H locs k0 z0 Q (F0 m pc ls (.null :: rest)))
    (hs : kn_sta nL pc1 lo i st h = some (.inl (f1, h1, k, z))) (hk : kn_Nx cl b base L xs cA D nL p l e R s m args below meth c Q f1 h1 (k0 + k) (z0 + z)) : kn_Nx cl b base L xs cA D nL p l e R s m args below meth c Q (pc, lo, st) h k0 z0 := by
  unfold kn_sta at hs
  split at hs
  · rename_i x r
    cases hc : Nat.ble (i + 1) nL with
    | false => rw [hc] at hs; cases hs
    | true =>
      rw [hc] at hs
      cases hs
      intro H locs ls hR hl
      exact row hl (Nat.le_of_ble_eq_true hc) (fun ls' hl' => hk H locs ls' hR (by rw [kn_vs_s1]; exact hl'))
  · rename_i r
    cases hc : Nat.ble (i + 1) nL with
    | false => rw [hc] at hs; cases hs
    | true =>
      rw [hc] at hs
      cases hs
      intro H locs ls hR hl
      exact rowN hl (Nat.le_of_ble_eq_true hc) (fun ls' hl' => hk H locs ls' hR (by rw [kn_vs_s1]; exact hl'))
  · cases hs
theorem kn_W_inc {i : Nat} {n : Int} (row : ∀ {H : Heap} {locs : List Loc} {ls : Array Slot} {x : Int32} {rest : List Value} {lv : List (Nat × Value)} {j : Nat}, lv_has ls nL lv → lv[j]? = some (i, .int x) → i < nL → (∀ ls', lv_has ls' nL ((i, Value.int (x + Int32.ofInt n)) :: lv.filter (fun q => !(q.1 == i) && !(q.1 + 1 == i && q.2.category == 2))) → W p l e R s m args below meth c H locs k0 z0 Q (F0 m pc1 ls' rest)) → W p l e R s m args below meth c H locs k0 z0 Q (F0 m pc ls rest))
    (hs : kn_inc nL pc1 lo i n st h = some (.inl (f1, h1, k, z))) (hk : kn_Nx cl b base L xs cA D nL p l e R s m args below meth c Q f1 h1 (k0 + k) (z0 + z)) : kn_Nx cl b base L xs cA D nL p l e R s m args below meth c Q (pc, lo, st) h k0 z0 := by
  unfold kn_inc at hs
  split at hs
  · rename_i x hx
    cases hc : Nat.ble (i + 1) nL with
    | false => rw [hc] at hs; cases hs
    | true =>
      rw [hc] at hs
      cases hs
      intro H locs ls hR hl
      have hm : (i, Value.int x) ∈ kn_vs b base lo := List.mem_map.mpr ⟨(i, .int x), kn_ld_mem hx, rfl⟩
      obtain ⟨j, hj⟩ := List.getElem?_of_mem hm
      exact row hl hj (Nat.le_of_ble_eq_true hc) (fun ls' hl' => hk H locs ls' hR (by rw [kn_vs_s1]; exact hl'))
  · cases hs
theorem kn_W_ii {f : Int32 → Int32 → Int32} (row : ∀ {H : Heap} {locs : List Loc} {ls : Array Slot} {x y : Int32} {rest : List Value}, W p l e R s m args below meth c H locs k0 z0 Q (F0 m pc1 ls (.int (f x y) :: rest)) → W p l e R s m args below meth c H locs k0 z0 Q (F0 m pc ls (.int y :: .int x :: rest)))
    (hs : kn_ii f pc1 lo st h = some (.inl (f1, h1, k, z))) (hk : kn_Nx cl b base L xs cA D nL p l e R s m args below meth c Q f1 h1 (k0 + k) (z0 + z)) : kn_Nx cl b base L xs cA D nL p l e R s m args below meth c Q (pc, lo, st) h k0 z0 := by
  unfold kn_ii at hs
  split at hs
  · cases hs
    intro H locs ls hR hl
    exact row (hk H locs ls hR hl)
  · cases hs
theorem kn_W_id {f : Int32 → Int32 → Int32} (row : ∀ {H : Heap} {locs : List Loc} {ls : Array Slot} {x y : Int32} {rest : List Value}, ¬ y = 0 → W p l e R s m args below meth c H locs k0 z0 Q (F0 m pc1 ls (.int (f x y) :: rest)) → W p l e R s m args below meth c H locs k0 z0 Q (F0 m pc ls (.int y :: .int x :: rest)))
    (hs : kn_id f pc1 lo st h = some (.inl (f1, h1, k, z))) (hk : kn_Nx cl b base L xs cA D nL p l e R s m args below meth c Q f1 h1 (k0 + k) (z0 + z)) : kn_Nx cl b base L xs cA D nL p l e R s m args below meth c Q (pc, lo, st) h k0 z0 := by
  unfold kn_id at hs
  split at hs
  · split at hs
    · cases hs
    · rename_i hne
      cases hs
      intro H locs ls hR hl
      exact row hne (hk H locs ls hR hl)
  · cases hs
theorem kn_W_ll {f : Int64 → Int64 → Int64} (row : ∀ {H : Heap} {locs : List Loc} {ls : Array Slot} {x y : Int64} {rest : List Value}, W p l e R s m args below meth c H locs k0 z0 Q (F0 m pc1 ls (.long (f x y) :: rest)) → W p l e R s m args below meth c H locs k0 z0 Q (F0 m pc ls (.long y :: .long x :: rest)))
    (hs : kn_ll f pc1 lo st h = some (.inl (f1, h1, k, z))) (hk : kn_Nx cl b base L xs cA D nL p l e R s m args below meth c Q f1 h1 (k0 + k) (z0 + z)) : kn_Nx cl b base L xs cA D nL p l e R s m args below meth c Q (pc, lo, st) h k0 z0 := by
  unfold kn_ll at hs
  split at hs
  · cases hs
    intro H locs ls hR hl
    exact row (hk H locs ls hR hl)
  · cases hs
theorem kn_W_ldv {f : Int64 → Int64 → Int64} (row : ∀ {H : Heap} {locs : List Loc} {ls : Array Slot} {x y : Int64} {rest : List Value}, ¬ y = 0 → W p l e R s m args below meth c H locs k0 z0 Q (F0 m pc1 ls (.long (f x y) :: rest)) → W p l e R s m args below meth c H locs k0 z0 Q (F0 m pc ls (.long y :: .long x :: rest)))
    (hs : kn_ldv f pc1 lo st h = some (.inl (f1, h1, k, z))) (hk : kn_Nx cl b base L xs cA D nL p l e R s m args below meth c Q f1 h1 (k0 + k) (z0 + z)) : kn_Nx cl b base L xs cA D nL p l e R s m args below meth c Q (pc, lo, st) h k0 z0 := by
  unfold kn_ldv at hs
  split at hs
  · split at hs
    · cases hs
    · rename_i hne
      cases hs
      intro H locs ls hR hl
      exact row hne (hk H locs ls hR hl)
  · cases hs
theorem kn_W_li {f : Int64 → Int32 → Int64} (row : ∀ {H : Heap} {locs : List Loc} {ls : Array Slot} {x : Int64} {y : Int32} {rest : List Value}, W p l e R s m args below meth c H locs k0 z0 Q (F0 m pc1 ls (.long (f x y) :: rest)) → W p l e R s m args below meth c H locs k0 z0 Q (F0 m pc ls (.int y :: .long x :: rest)))
    (hs : kn_li f pc1 lo st h = some (.inl (f1, h1, k, z))) (hk : kn_Nx cl b base L xs cA D nL p l e R s m args below meth c Q f1 h1 (k0 + k) (z0 + z)) : kn_Nx cl b base L xs cA D nL p l e R s m args below meth c Q (pc, lo, st) h k0 z0 := by
  unfold kn_li at hs
  split at hs
  · cases hs
    intro H locs ls hR hl
    exact row (hk H locs ls hR hl)
  · cases hs
theorem kn_W_lc (row : ∀ {H : Heap} {locs : List Loc} {ls : Array Slot} {x y : Int64} {rest : List Value}, W p l e R s m args below meth c H locs k0 z0 Q (F0 m pc1 ls (.int (lg_cmp x y) :: rest)) → W p l e R s m args below meth c H locs k0 z0 Q (F0 m pc ls (.long y :: .long x :: rest)))
    (hs : kn_lc pc1 lo st h = some (.inl (f1, h1, k, z))) (hk : kn_Nx cl b base L xs cA D nL p l e R s m args below meth c Q f1 h1 (k0 + k) (z0 + z)) : kn_Nx cl b base L xs cA D nL p l e R s m args below meth c Q (pc, lo, st) h k0 z0 := by
  unfold kn_lc at hs
  split at hs
  · cases hs
    intro H locs ls hR hl
    exact row (hk H locs ls hR hl)
  · cases hs
theorem kn_W_1i {f : Int32 → Value} (row : ∀ {H : Heap} {locs : List Loc} {ls : Array Slot} {x : Int32} {rest : List Value}, W p l e R s m args below meth c H locs k0 z0 Q (F0 m pc1 ls (kn_v b base (f x) :: rest)) → W p l e R s m args below meth c H locs k0 z0 Q (F0 m pc ls (.int x :: rest)))
    (hs : kn_1i f pc1 lo st h = some (.inl (f1, h1, k, z))) (hk : kn_Nx cl b base L xs cA D nL p l e R s m args below meth c Q f1 h1 (k0 + k) (z0 + z)) : kn_Nx cl b base L xs cA D nL p l e R s m args below meth c Q (pc, lo, st) h k0 z0 := by
  unfold kn_1i at hs
  split at hs
  · cases hs
    intro H locs ls hR hl
    exact row (hk H locs ls hR hl)
  · cases hs
theorem kn_W_1l {f : Int64 → Value} (row : ∀ {H : Heap} {locs : List Loc} {ls : Array Slot} {x : Int64} {rest : List Value}, W p l e R s m args below meth c H locs k0 z0 Q (F0 m pc1 ls (kn_v b base (f x) :: rest)) → W p l e R s m args below meth c H locs k0 z0 Q (F0 m pc ls (.long x :: rest)))
    (hs : kn_1l f pc1 lo st h = some (.inl (f1, h1, k, z))) (hk : kn_Nx cl b base L xs cA D nL p l e R s m args below meth c Q f1 h1 (k0 + k) (z0 + z)) : kn_Nx cl b base L xs cA D nL p l e R s m args below meth c Q (pc, lo, st) h k0 z0 := by
  unfold kn_1l at hs
  split at hs
  · cases hs
    intro H locs ls hR hl
    exact row (hk H locs ls hR hl)
  · cases hs
theorem kn_c1_eq {v : Value} (h : kn_c1 v = true) : (kn_v b base v).category = 1 := by rw [kn_v_cat]; exact Nat.eq_of_beq_eq_true h
theorem kn_W_dup (row : ∀ {H : Heap} {locs : List Loc} {ls : Array Slot} {x : Value} {rest : List Value}, x.category = 1 → W p l e R s m args below meth c H locs k0 z0 Q (F0 m pc1 ls (x :: x :: rest)) → W p l e R s m args below meth c H locs k0 z0 Q (F0 m pc ls (x :: rest)))
    (hs : kn_dup pc1 lo st h = some (.inl (f1, h1, k, z))) (hk : kn_Nx cl b base L xs cA D nL p l e R s m args below meth c Q f1 h1 (k0 + k) (z0 + z)) : kn_Nx cl b base L xs cA D nL p l e R s m args below meth c Q (pc, lo, st) h k0 z0 := by
  unfold kn_dup at hs
  split at hs
  · rename_i a r
    cases hc : kn_c1 a with
    | false => rw [hc] at hs; cases hs
    | true =>
      rw [hc] at hs
      cases hs
      intro H locs ls hR hl
      exact row (kn_c1_eq hc) (hk H locs ls hR hl)
  · cases hs
theorem kn_W_pop (row : ∀ {H : Heap} {locs : List Loc} {ls : Array Slot} {x : Value} {rest : List Value}, x.category = 1 → W p l e R s m args below meth c H locs k0 z0 Q (F0 m pc1 ls rest) → W p l e R s m args below meth c H locs k0 z0 Q (F0 m pc ls (x :: rest)))
    (hs : kn_pop pc1 lo st h = some (.inl (f1, h1, k, z))) (hk : kn_Nx cl b base L xs cA D nL p l e R s m args below meth c Q f1 h1 (k0 + k) (z0 + z)) : kn_Nx cl b base L xs cA D nL p l e R s m args below meth c Q (pc, lo, st) h k0 z0 := by
  unfold kn_pop at hs
  split at hs
  · rename_i a r
    cases hc : kn_c1 a with
    | false => rw [hc] at hs; cases hs
    | true =>
      rw [hc] at hs
      cases hs
      intro H locs ls hR hl
      exact row (kn_c1_eq (b := b) (base := base) hc) (hk H locs ls hR hl)
  · cases hs
theorem kn_W_dx1 (row : ∀ {H : Heap} {locs : List Loc} {ls : Array Slot} {x y : Value} {rest : List Value}, x.category = 1 → y.category = 1 → W p l e R s m args below meth c H locs k0 z0 Q (F0 m pc1 ls (x :: y :: x :: rest)) → W p l e R s m args below meth c H locs k0 z0 Q (F0 m pc ls (x :: y :: rest)))
    (hs : kn_dx1 pc1 lo st h = some (.inl (f1, h1, k, z))) (hk : kn_Nx cl b base L xs cA D nL p l e R s m args below meth c Q f1 h1 (k0 + k) (z0 + z)) : kn_Nx cl b base L xs cA D nL p l e R s m args below meth c Q (pc, lo, st) h k0 z0 := by
  unfold kn_dx1 at hs
  split at hs
  · rename_i a a2 r
    cases hc : kn_c1 a && kn_c1 a2 with
    | false => rw [hc] at hs; cases hs
    | true =>
      rw [hc] at hs
      obtain ⟨c1, c2⟩ := Bool.and_eq_true_iff.mp hc
      cases hs
      intro H locs ls hR hl
      exact row (kn_c1_eq c1) (kn_c1_eq c2) (hk H locs ls hR hl)
  · cases hs
theorem kn_W_dx2 (row : ∀ {H : Heap} {locs : List Loc} {ls : Array Slot} {x y w : Value} {rest : List Value}, x.category = 1 → y.category = 1 → w.category = 1 → W p l e R s m args below meth c H locs k0 z0 Q (F0 m pc1 ls (x :: y :: w :: x :: rest)) → W p l e R s m args below meth c H locs k0 z0 Q (F0 m pc ls (x :: y :: w :: rest)))
    (hs : kn_dx2 pc1 lo st h = some (.inl (f1, h1, k, z))) (hk : kn_Nx cl b base L xs cA D nL p l e R s m args below meth c Q f1 h1 (k0 + k) (z0 + z)) : kn_Nx cl b base L xs cA D nL p l e R s m args below meth c Q (pc, lo, st) h k0 z0 := by
  unfold kn_dx2 at hs
  split at hs
  · rename_i a a2 a3 r
    cases hc : kn_c1 a && (kn_c1 a2 && kn_c1 a3) with
    | false => rw [hc] at hs; cases hs
    | true =>
      rw [hc] at hs
      obtain ⟨c1, c2⟩ := Bool.and_eq_true_iff.mp hc
      obtain ⟨c2, c3⟩ := Bool.and_eq_true_iff.mp c2
      cases hs
      intro H locs ls hR hl
      exact row (kn_c1_eq c1) (kn_c1_eq c2) (kn_c1_eq c3) (hk H locs ls hR hl)
  · cases hs
theorem kn_W_d2 (row : ∀ {H : Heap} {locs : List Loc} {ls : Array Slot} {x y : Value} {rest : List Value}, x.category = 1 → y.category = 1 → W p l e R s m args below meth c H locs k0 z0 Q (F0 m pc1 ls (x :: y :: x :: y :: rest)) → W p l e R s m args below meth c H locs k0 z0 Q (F0 m pc ls (x :: y :: rest)))
    (hs : kn_d2 pc1 lo st h = some (.inl (f1, h1, k, z))) (hk : kn_Nx cl b base L xs cA D nL p l e R s m args below meth c Q f1 h1 (k0 + k) (z0 + z)) : kn_Nx cl b base L xs cA D nL p l e R s m args below meth c Q (pc, lo, st) h k0 z0 := by
  unfold kn_d2 at hs
  split at hs
  · rename_i a a2 r
    cases hc : kn_c1 a && kn_c1 a2 with
    | false => rw [hc] at hs; cases hs
    | true =>
      rw [hc] at hs
      obtain ⟨c1, c2⟩ := Bool.and_eq_true_iff.mp hc
      cases hs
      intro H locs ls hR hl
      exact row (kn_c1_eq c1) (kn_c1_eq c2) (hk H locs ls hR hl)
  · cases hs
theorem kn_W_br {cc : ByteArray} {cnd : ClassFile.Cond} {t n : Nat} {off : Int} (hx : p.tables.exec = Jvm.exec) (hb : c.code = cc) (hd : decode cc pc = .ok (.if_icmp cnd off, 3)) (ht : (pc : Int) + off = (t : Int)) (hn : n = pc + 3)
    (hs : kn_cmp cnd t n lo st h = some (.inl (f1, h1, k, z))) (hk : kn_Nx cl b base L xs cA D nL p l e R s m args below meth c Q f1 h1 (k0 + k) (z0 + z)) : kn_Nx cl b base L xs cA D nL p l e R s m args below meth c Q (pc, lo, st) h k0 z0 := by
  subst hn
  unfold kn_cmp at hs
  split at hs
  · rename_i y x r
    intro H locs ls hR hl
    cases cnd <;> simp only [kn_br] at hs <;> split at hs <;> rename_i hc <;> cases hs
    · exact lv_icmp_eq hx hb hd ht (fun _ => hk H locs ls hR hl) (fun h => absurd hc h)
    · exact lv_icmp_eq hx hb hd ht (fun h => absurd h hc) (fun _ => hk H locs ls hR hl)
    · exact lv_icmp_ne hx hb hd ht (fun h => absurd hc h) (fun _ => hk H locs ls hR hl)
    · exact lv_icmp_ne hx hb hd ht (fun _ => hk H locs ls hR hl) (fun h => absurd h hc)
    · exact lv_icmp_lt hx hb hd ht (fun _ => hk H locs ls hR hl) (fun h => absurd hc h)
    · exact lv_icmp_lt hx hb hd ht (fun h => absurd h hc) (fun _ => hk H locs ls hR hl)
    · exact lv_icmp_ge hx hb hd ht (fun _ => hk H locs ls hR hl) (fun h => absurd hc h)
    · exact lv_icmp_ge hx hb hd ht (fun h => absurd h hc) (fun _ => hk H locs ls hR hl)
    · exact lv_icmp_gt hx hb hd ht (fun _ => hk H locs ls hR hl) (fun h => absurd hc h)
    · exact lv_icmp_gt hx hb hd ht (fun h => absurd h hc) (fun _ => hk H locs ls hR hl)
    · exact lv_icmp_le hx hb hd ht (fun _ => hk H locs ls hR hl) (fun h => absurd hc h)
    · exact lv_icmp_le hx hb hd ht (fun h => absurd h hc) (fun _ => hk H locs ls hR hl)
  · cases hs
theorem kn_W_if {cc : ByteArray} {cnd : ClassFile.Cond} {t n : Nat} {off : Int} (hx : p.tables.exec = Jvm.exec) (hb : c.code = cc) (hd : decode cc pc = .ok (.ifCond cnd off, 3)) (ht : (pc : Int) + off = (t : Int)) (hn : n = pc + 3)
    (hs : kn_if cnd t n lo st h = some (.inl (f1, h1, k, z))) (hk : kn_Nx cl b base L xs cA D nL p l e R s m args below meth c Q f1 h1 (k0 + k) (z0 + z)) : kn_Nx cl b base L xs cA D nL p l e R s m args below meth c Q (pc, lo, st) h k0 z0 := by
  subst hn
  unfold kn_if at hs
  split at hs
  · rename_i x r
    intro H locs ls hR hl
    cases cnd <;> simp only [kn_br] at hs <;> split at hs <;> rename_i hc <;> cases hs
    · exact lv_if_eq hx hb hd ht (fun _ => hk H locs ls hR hl) (fun h => absurd hc h)
    · exact lv_if_eq hx hb hd ht (fun h => absurd h hc) (fun _ => hk H locs ls hR hl)
    · exact lv_if_ne hx hb hd ht (fun h => absurd hc h) (fun _ => hk H locs ls hR hl)
    · exact lv_if_ne hx hb hd ht (fun _ => hk H locs ls hR hl) (fun h => absurd h hc)
    · exact lv_if_lt hx hb hd ht (fun _ => hk H locs ls hR hl) (fun h => absurd hc h)
    · exact lv_if_lt hx hb hd ht (fun h => absurd h hc) (fun _ => hk H locs ls hR hl)
    · exact lv_if_ge hx hb hd ht (fun _ => hk H locs ls hR hl) (fun h => absurd hc h)
    · exact lv_if_ge hx hb hd ht (fun h => absurd h hc) (fun _ => hk H locs ls hR hl)
    · exact lv_if_gt hx hb hd ht (fun _ => hk H locs ls hR hl) (fun h => absurd hc h)
    · exact lv_if_gt hx hb hd ht (fun h => absurd h hc) (fun _ => hk H locs ls hR hl)
    · exact lv_if_le hx hb hd ht (fun _ => hk H locs ls hR hl) (fun h => absurd hc h)
    · exact lv_if_le hx hb hd ht (fun h => absurd h hc) (fun _ => hk H locs ls hR hl)
  · cases hs
theorem kn_W_null {cc : ByteArray} {t : Nat} {off : Int} (hx : p.tables.exec = Jvm.exec) (hb : c.code = cc) (hd : decode cc pc = .ok (.ifnull off, 3)) (ht : (pc : Int) + off = (t : Int))
    (hs : kn_nul t (pc + 3) lo st h = some (.inl (f1, h1, k, z))) (hk : kn_Nx cl b base L xs cA D nL p l e R s m args below meth c Q f1 h1 (k0 + k) (z0 + z)) : kn_Nx cl b base L xs cA D nL p l e R s m args below meth c Q (pc, lo, st) h k0 z0 := by
  unfold kn_nul at hs
  split at hs
  · cases hs
    intro H locs ls hR hl
    exact lv_ifnull hx hb hd (hk H locs ls hR hl)
  · cases hs
    intro H locs ls hR hl
    exact lv_ifnullN hx hb hd ht (hk H locs ls hR hl)
  · cases hs
theorem kn_W_nonnull {cc : ByteArray} {t : Nat} {off : Int} (hx : p.tables.exec = Jvm.exec) (hb : c.code = cc) (hd : decode cc pc = .ok (.ifnonnull off, 3)) (ht : (pc : Int) + off = (t : Int))
    (hs : kn_nul (pc + 3) t lo st h = some (.inl (f1, h1, k, z))) (hk : kn_Nx cl b base L xs cA D nL p l e R s m args below meth c Q f1 h1 (k0 + k) (z0 + z)) : kn_Nx cl b base L xs cA D nL p l e R s m args below meth c Q (pc, lo, st) h k0 z0 := by
  unfold kn_nul at hs
  split at hs
  · cases hs
    intro H locs ls hR hl
    exact lv_ifnonnull hx hb hd ht (hk H locs ls hR hl)
  · cases hs
    intro H locs ls hR hl
    exact lv_ifnonnullN hx hb hd (hk H locs ls hR hl)
  · cases hs
end KNS1
