/-- how a method ends at a pc -/
def kn_End (M : kn_M) (v : Option Value) (pc : Nat) : Prop :=
  (∃ x : Int32, v = some (.int x) ∧ decode M.2.1 pc = .ok (.ireturn, 1) ∧ (M.2.2.2.1 = some .int ∨ (M.2.2.2.1 = some .boolean ∧ (x = 0 ∨ x = 1)))) ∨
  (∃ x : Int64, v = some (.long x) ∧ decode M.2.1 pc = .ok (.lreturn, 1) ∧ M.2.2.2.1 = some .long) ∨ (v = none ∧ decode M.2.1 pc = .ok (.return_, 1) ∧ M.2.2.2.1 = none)
theorem kn_ri_inv {ret : Option FieldType} {st : List Value} {v : Option Value} (hs : kn_ri ret st = some (.inr (.inr v))) : ∃ x : Int32, v = some (.int x) ∧ st = [.int x] ∧ (ret = some .int ∨ (ret = some .boolean ∧ (x = 0 ∨ x = 1))) := by
  unfold kn_ri at hs
  split at hs
  · cases hs
    exact ⟨_, rfl, rfl, Or.inl rfl⟩
  · rename_i x
    cases hb : (x == 0 || x == 1) with
    | false => rw [hb] at hs; cases hs
    | true =>
      rw [hb] at hs
      cases hs
      refine ⟨_, rfl, rfl, Or.inr ⟨rfl, ?_⟩⟩
      rcases Bool.or_eq_true_iff.mp hb with h | h
      · exact Or.inl (eq_of_beq h)
      · exact Or.inr (eq_of_beq h)
  · cases hs
theorem kn_cv_inv {pc : Nat} {aux : List Nat} {lo : List (Nat × Value)} {st : List Value} {h : kn_H} {j : Nat} {as : List Value} {f1 : kn_F} (hs : kn_cv pc aux lo st h = some (.inr (.inl (j, as, f1)))) :
    ∃ (n ci nL : Nat) (tl : List Nat) (a : Nat) (r fs : List Value), aux = j :: n :: ci :: nL :: tl ∧ st.drop n = .ref a :: r ∧ kn_at h a = some (.inr (ci, fs)) ∧ (st.take n).length = n ∧ kn_cat r ≤ 8 ∧ (lg_sl as).length ≤ nL ∧ as = .ref a :: (st.take n).reverse ∧ f1 = (pc, lo, r) := by
  unfold kn_cv at hs
  split at hs
  · rename_i j' n ci nL tl
    split at hs
    · rename_i a r hdr
      split at hs
      · rename_i c' fs hat
        cases hb : Nat.beq c' ci && (Nat.beq (st.take n).length n && (Nat.ble (kn_cat r) 8 && Nat.ble (lg_sl (.ref a :: (st.take n).reverse)).length nL)) with
        | false => rw [hb] at hs; cases hs
        | true =>
          rw [hb] at hs
          obtain ⟨q1, q2⟩ := Bool.and_eq_true_iff.mp hb
          obtain ⟨q2, q3⟩ := Bool.and_eq_true_iff.mp q2
          obtain ⟨q3, q4⟩ := Bool.and_eq_true_iff.mp q3
          have e1 : c' = ci := Nat.eq_of_beq_eq_true q1
          subst e1
          cases hs
          exact ⟨n, c', nL, tl, a, r, fs, rfl, hdr, hat, Nat.eq_of_beq_eq_true q2, Nat.le_of_ble_eq_true q3, Nat.le_of_ble_eq_true q4, rfl, rfl⟩
      · cases hs
    · cases hs
  · cases hs
theorem kn_cs_inv {pc : Nat} {aux : List Nat} {lo : List (Nat × Value)} {st : List Value} {j : Nat} {as : List Value} {f1 : kn_F} (hs : kn_cs pc aux lo st = some (.inr (.inl (j, as, f1)))) :
    ∃ (n ci nL : Nat) (tl : List Nat), aux = j :: n :: ci :: nL :: tl ∧ (st.take n).length = n ∧ kn_cat (st.drop n) ≤ 8 ∧ (lg_sl as).length ≤ nL ∧ as = (st.take n).reverse ∧ f1 = (pc, lo, st.drop n) := by
  unfold kn_cs at hs
  split at hs
  · rename_i j' n ci nL tl
    cases hb : Nat.beq (st.take n).length n && (Nat.ble (kn_cat (st.drop n)) 8 && Nat.ble (lg_sl (st.take n).reverse).length nL) with
    | false => rw [hb] at hs; cases hs
    | true =>
      rw [hb] at hs
      obtain ⟨q2, q3⟩ := Bool.and_eq_true_iff.mp hb
      obtain ⟨q3, q4⟩ := Bool.and_eq_true_iff.mp q3
      cases hs
      exact ⟨n, ci, nL, tl, rfl, Nat.eq_of_beq_eq_true q2, Nat.le_of_ble_eq_true q3, Nat.le_of_ble_eq_true q4, rfl, rfl⟩
  · cases hs
/-- a step is on, a call or an end by its instruction -/
theorem kn_step_end {nL : Nat} {ret : Option FieldType} {i : kn_I} {pc : Nat} {lo : List (Nat × Value)} {st : List Value} {h : kn_H} {v : Option Value} (hs : kn_step nL ret i pc lo st h = some (.inr (.inr v))) : i.1 = .ireturn ∨ i.1 = .lreturn ∨ i.1 = .return_ := by
  obtain ⟨ins, len, aux, pl⟩ := i
  cases ins
  case ireturn => exact Or.inl rfl
  case lreturn => exact Or.inr (Or.inl rfl)
  case return_ => exact Or.inr (Or.inr rfl)
  all_goals first | (exfalso; cases hs; done) | skip
  all_goals (exfalso; simp only [kn_step, kn_ldi, kn_ldl, kn_lda, kn_sti, kn_stl, kn_sta, kn_inc, kn_ii, kn_id, kn_ll, kn_ldv, kn_li, kn_lc, kn_1i, kn_1l, kn_dup, kn_pop, kn_dx1, kn_dx2, kn_d2, kn_if, kn_cmp, kn_br, kn_nul, kn_tab, kn_get, kn_put, kn_ald, kn_lald, kn_ast, kn_bast, kn_last, kn_len, kn_new, kn_newa, kn_cv, kn_cs, kn_ci, kn_cst, kn_copy, kn_mx, kn_to, cond_eq_ite] at hs; (repeat' split at hs) <;> simp at hs)
theorem kn_step_call {nL : Nat} {ret : Option FieldType} {i : kn_I} {pc : Nat} {lo : List (Nat × Value)} {st : List Value} {h : kn_H} {q : Nat × List Value × kn_F} (hs : kn_step nL ret i pc lo st h = some (.inr (.inl q))) : (∃ n, i.1 = .invokevirtual n) ∨ (∃ n, i.1 = .invokespecial n) ∨ (∃ n, i.1 = .invokestatic n) := by
  obtain ⟨ins, len, aux, pl⟩ := i
  cases ins
  case invokevirtual n => exact Or.inl ⟨n, rfl⟩
  case invokespecial n => exact Or.inr (Or.inl ⟨n, rfl⟩)
  case invokestatic n => exact Or.inr (Or.inr ⟨n, rfl⟩)
  all_goals first | (exfalso; cases hs; done) | skip
  all_goals (exfalso; simp only [kn_step, kn_ldi, kn_ldl, kn_lda, kn_sti, kn_stl, kn_sta, kn_inc, kn_ii, kn_id, kn_ll, kn_ldv, kn_li, kn_lc, kn_1i, kn_1l, kn_dup, kn_pop, kn_dx1, kn_dx2, kn_d2, kn_if, kn_cmp, kn_br, kn_nul, kn_tab, kn_get, kn_put, kn_ald, kn_lald, kn_ast, kn_bast, kn_last, kn_len, kn_new, kn_newa, kn_ri, kn_rl, kn_rv, kn_to, cond_eq_ite] at hs; (repeat' split at hs) <;> simp at hs)
section KNS4
variable {p : Program} {l : Launch} {e : Env} {R : Room} {s : State} {m : MethodId} {args : Array Value} {below : List Frame} {meth : Method} {c : Code} {Q : State → Prop} {k0 z0 : Nat}
variable {cl : List vw_C} {Ts Tg Ns : List Cond} {T : List kn_M} {b base L : Nat} {xs : Nat → Int32} {cA : FieldType → ClassId} {D : va_G} {M : kn_M} {pc : Nat} {lo : List (Nat × Value)} {st : List Value} {h : kn_H}
/-- the heap is just as large as the cells say -/
theorem kn_exact {rr : kn_H} {H : Heap} {locs : List Loc} {E : kn_C → va_E} {k : Nat} (hz : s.heap.size + k = base + rr.length) (hP : va_P D cl (kn_w E base rr) H) (hS : va_S (fun q => base ≤ q) s.heap H locs) (hbs : base ≤ s.heap.size) (hle : H.size ≤ s.heap.size + k) : H.size = base + rr.length := by
  have h1 : s.heap.size ≤ H.size := hS.1
  rcases Nat.eq_zero_or_pos rr.length with h0 | h0
  · omega
  · have hs : ∃ y, kn_at rr (rr.length - 1) = some y := by
      rw [kn_at_eq]
      exact ⟨_, List.getElem?_eq_getElem (by omega)⟩
    obtain ⟨y, hy⟩ := hs
    have h2 : base + (rr.length - 1) < H.size := (hP _ _ (kn_w_get hy)).lt
    omega
/-- a method's start, and its end -/
def kn_Pc (cl : List vw_C) (Ns : List Cond) (b base L : Nat) (xs : Nat → Int32) (cA : FieldType → ClassId) (D : va_G) (as : List Value) (h : kn_H) : Array Value → State → Prop := fun a U =>
  a = (as.map (kn_v b base)).toArray ∧ (∀ w ∈ Ns, va_Nw w U) ∧ va_K D cl (kn_tys cA) U ∧ va_X b L xs U U.heap ∧ ∃ rr : kn_H, h = .inl (.int, L, .inl xs) :: rr ∧ U.heap.size = base + rr.length ∧ va_P D cl (kn_w (kn_e cA b base) base rr) U.heap
def kn_Qc (cl : List vw_C) (b base L : Nat) (xs : Nat → Int32) (cA : FieldType → ClassId) (D : va_G) (v : Option Value) (h1 : kn_H) (k : Nat) : Array Value → State → Outcome → State → Prop := fun _ st oc t =>
  oc = .returned (v.map (kn_v b base)) ∧ va_F (fun q => base ≤ q) st t ∧ ∃ rr : kn_H, h1 = .inl (.int, L, .inl xs) :: rr ∧ st.heap.size + k = base + rr.length ∧ va_P D cl (kn_w (kn_e cA b base) base rr) t.heap
/-- a run of the machine, said of the JVM -/
def kn_Snd (cl : List vw_C) (Tg Ns : List Cond) (b base L : Nat) (xs : Nat → Int32) (cA : FieldType → ClassId) (D : va_G) (l : Launch) (M : kn_M) (f : kn_F) (h : kn_H) (r : Option Value × kn_H × Nat × Nat) : Prop :=
  ∀ {p : Program} {e : Env} {R : Room} {s : State} {m : MethodId} {args : Array Value} {below : List Frame} {meth : Method} {c : Code} {Q : State → Prop} {k0 z0 : Nat}, kn_Ctx cl Tg Ns b base L xs cA D M p R s m args meth c → k0 + r.2.2.1 ≤ R.cells → z0 + r.2.2.2 ≤ R.slots →
    (∀ (H : Heap) (locs : List Loc) (ls : Array Slot) (pc : Nat), kn_Rel cl b base L xs cA D s H locs (k0 + r.2.2.1) r.2.1 → kn_End M r.1 pc → W p l e R s m args below meth c H locs (k0 + r.2.2.1) (z0 + r.2.2.2) Q (F0 m pc ls (r.1.map (kn_v b base)).toList)) →
    kn_Nx cl b base L xs cA D M.2.2.1 p l e R s m args below meth c Q f h k0 z0
theorem kn_met (S : kn_St cl Ts Tg Ns T) (l : Launch) (hbb : b < base) {M1 : kn_M} {j : Nat} (hj : kn_at T j = some M1) {as : List Value} {r : Option Value × kn_H × Nat × Nat} (IH : kn_Snd cl Tg Ns b base L xs cA D l M1 (0, lv_args 0 as, []) h r) (hlen : (lg_sl as).length ≤ M1.2.2.1) :
    Met l M1.1 (Cond.code M1.1 M1.2.1 M1.2.2.1 M1.2.2.2.1 :: Tg) ({ frames := M1.2.2.2.2.1.1, cells := r.2.2.1, slots := r.2.2.2, locals := M1.2.2.2.2.1.2 }) (kn_Pc cl Ns b base L xs cA D as h) (kn_Qc cl b base L xs cA D r.1 r.2.1 r.2.2.1) r.2.2.1 r.2.2.2 (fun q => base ≤ q) := by
  obtain ⟨-, hpl, -⟩ := S.2.1 j M1 hj
  refine Met.ofW (cc := M1.2.1) (maxL := M1.2.2.1) (ret := M1.2.2.2.1) hpl rfl ?_
  intro p e s m args below meth c s₁ B hml hv
  obtain ⟨rfl, hns, hK, hX, rr, rfl, hz, hP⟩ := hv
  have hts := atoms_spec (ws := Cond.code M1.1 M1.2.1 M1.2.2.1 M1.2.2.2.1 :: Tg) B.pre
  have hlk := B.notSynchronized
  have C1 : kn_Ctx cl Tg Ns b base L xs cA D M1 p (headSpec (Cond.code M1.1 M1.2.1 M1.2.2.1 M1.2.2.2.1 :: Tg) ({ frames := M1.2.2.2.2.1.1, cells := r.2.2.1, slots := r.2.2.2, locals := M1.2.2.2.2.1.2 } : Room)).room s m ((as.map (kn_v b base)).toArray) meth c :=
    ⟨B.exec, B.bytes, B.returns, hml, findClass_of_methodNamed B.named, fun w hw => hts w (List.mem_cons_of_mem _ hw), hns, hlk, fun hi => (name_of_methodNamed B.named B.method).1.trans hi, hK, hX, hbb, by omega, Nat.le_refl _, Nat.le_refl _⟩
  rw [lg_entry_eq]
  have hl := lv_entry (as.map (kn_v b base)) (n := M1.2.2.1) (by rw [kn_sl_len]; exact hlen)
  rw [← kn_vs_args] at hl
  refine IH (k0 := 0) (z0 := 0) C1 (by rw [Nat.zero_add]; exact Nat.le_refl _) (by rw [Nat.zero_add]; exact Nat.le_refl _) ?_ s.heap [] _ ⟨rr, rfl, by omega, hP, va_S.rf⟩ hl
  intro H locs ls pc hR hE
  rw [Nat.zero_add] at hR ⊢
  rw [Nat.zero_add]
  obtain ⟨rr1, e1, hz1, hP1, hS1⟩ := hR
  have hq : ∀ t : State, t.heap = H → kn_Qc cl b base L xs cA D r.1 r.2.1 r.2.2.1 ((as.map (kn_v b base)).toArray) s (.returned (r.1.map (kn_v b base))) t := fun t ht => ⟨rfl, hS1.F ht, rr1, e1, hz1, by rw [ht]; exact hP1⟩
  rcases hE with ⟨x, hv, hd, hr | ⟨hr, hx01⟩⟩ | ⟨x, hv, hd, hr⟩ | ⟨hv, hd, hr⟩
  · rw [hv] at hq ⊢
    exact W.iret B.exec B.bytes (B.returns.trans hr) (fun t ht _ => hq t ht) hS1.2.2 hd
  · rw [hv] at hq ⊢
    exact W.zret (ty := .boolean) B.exec B.bytes (B.returns.trans hr) (by rcases hx01 with rfl | rfl <;> rfl) (fun t ht _ => hq t ht) hS1.2.2 hd
  · rw [hv] at hq ⊢
    exact W.lret B.exec B.bytes (B.returns.trans hr) (fun t ht _ => hq t ht) hS1.2.2 hd
  · rw [hv] at hq ⊢
    exact W.vret B.exec B.bytes (B.returns.trans hr) (fun t ht _ => hq t ht) hS1.2.2 hd
theorem kn_blind (hns : ∀ w ∈ Ns, ∃ (a : String) (i : Nat) (x : MethodName) (h : String), w = .methodLinkNest a i x h) {as : List Value} : FrameBlind (kn_Pc cl Ns b base L xs cA D as h) := by
  intro a U g mk q
  obtain ⟨q0, q1, q2, q3, q4⟩ := q
  refine ⟨q0, fun w hw => ?_, va_K.moved (u := U) (U := U.calling g mk a) (Vm.Alike.refl U.vm) q2, va_X.moved (u := U) (U := U.calling g mk a) (Vm.Alike.refl U.vm) q3, q4⟩
  obtain ⟨a1, i1, x1, h1, rfl⟩ := hns w hw
  exact va_Nw.same rfl (rfl : U.vm = (U.calling g mk a).vm) (q1 _ hw)
theorem kn_callR {H : Heap} {locs : List Loc} {k z : Nat} {ls : Array Slot} {st0 rest : List Value} {a : Array Value} {v : Option Value} {h1 : kn_H} {rr : kn_H} (hr : va_Run p l e R s m args below meth c H locs k0 z0 k z (F0 m pc ls st0) rest (kn_Qc cl b base L xs cA D v h1 k a) (fun q => base ≤ q)) (hS : va_S (fun q => base ≤ q) s.heap H locs) (hz : s.heap.size + k0 = base + rr.length) (hH : H.size = base + rr.length)
    (kk : ∀ (H1 : Heap) (locs1 : List Loc), kn_Rel cl b base L xs cA D s H1 locs1 (k0 + k) h1 → W p l e R s m args below meth c H1 locs1 (k0 + k) (z0 + z) Q (F0 m (pc + 3) ls ((v.map (kn_v b base)).toList ++ rest))) : W p l e R s m args below meth c H locs k0 z0 Q (F0 m pc ls st0) := by
  intro T0 hT X
  obtain ⟨v', st₀, t, T', L', h0, X', hL, e1, e2, ⟨hv, hF, rr1, hh1, hz1, hP1⟩, st⟩ := hr T0 hT X
  obtain ⟨g1, g2⟩ := hF
  rw [h0] at g1 g2 hz1
  have hv' : v' = v.map (kn_v b base) := by cases hv; rfl
  subst hv'
  obtain ⟨t2, a1, b1⟩ := kk T'.heap (locs ++ L') ⟨rr1, hh1, by omega, by rw [e1]; exact hP1, by
    refine ⟨by rw [e1]; exact Nat.le_trans hS.1 g1, fun q h1 h2 => ?_, fun q hq => ?_⟩
    · rw [e1, g2 q (Nat.lt_of_lt_of_le h1 hS.1) h2]
      exact hS.2.1 q h1 h2
    · rcases List.mem_append.mp hq with h | h
      · exact hS.2.2 q h
      · exact hL q h⟩ T' rfl X'
  exact ⟨t2, st t2 a1, b1⟩
end KNS4
