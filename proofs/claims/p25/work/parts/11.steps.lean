/-! The machine's steps are the JVM's: what its values and cells are there -/
def kn_ad (b base : Nat) : Nat → Nat
  | 0 => b
  | i + 1 => base + i
def kn_v (b base : Nat) : Value → Value
  | .ref a => .ref (kn_ad b base a)
  | v => v
theorem kn_v_cat (b base : Nat) (v : Value) : (kn_v b base v).category = v.category := by cases v <;> rfl
def kn_vs (b base : Nat) (l : List (Nat × Value)) : List (Nat × Value) := l.map (fun q => (q.1, kn_v b base q.2))
def kn_e (cA : FieldType → ClassId) (b base : Nat) : kn_C → va_E
  | .inl (ty, x) => .inl (cA ty, x)
  | .inr (ci, fs) => .inr (ci, fs.map (kn_v b base))
def kn_w (E : kn_C → va_E) : Nat → kn_H → va_W
  | _, [] => []
  | a, x :: r => (a, E x) :: kn_w E (a + 1) r
theorem kn_at_eq {α : Type} : ∀ (l : List α) (i : Nat), kn_at l i = l[i]?
  | [], i => by simp [kn_at]
  | x :: r, 0 => by simp [kn_at]
  | x :: r, i + 1 => by rw [kn_at, kn_at_eq r i]; simp
theorem kn_w_at (E : kn_C → va_E) : ∀ (r : kn_H) (a i : Nat), (kn_w E a r)[i]? = (kn_at r i).map (fun x => (a + i, E x))
  | [], a, i => by simp [kn_w, kn_at]
  | x :: r, a, 0 => by simp [kn_w, kn_at]
  | x :: r, a, i + 1 => by
    rw [kn_w, List.getElem?_cons_succ, kn_w_at E r (a + 1) i, kn_at]
    simp [Nat.add_assoc, Nat.add_comm 1 i]
theorem kn_w_len (E : kn_C → va_E) : ∀ (r : kn_H) (a : Nat), (kn_w E a r).length = r.length
  | [], _ => rfl
  | _ :: r, a => by rw [kn_w, List.length_cons, kn_w_len E r (a + 1), List.length_cons]
theorem kn_w_set (E : kn_C → va_E) (x : kn_C) : ∀ (r : kn_H) (a i : Nat), kn_w E a (r.set i x) = (kn_w E a r).set i (a + i, E x)
  | [], _, _ => rfl
  | _ :: r, a, 0 => by simp [kn_w]
  | y :: r, a, i + 1 => by
    rw [List.set_cons_succ, kn_w, kn_w, List.set_cons_succ, kn_w_set E x r (a + 1) i, Nat.add_assoc, Nat.add_comm 1 i]
theorem kn_w_app (E : kn_C → va_E) (x : kn_C) : ∀ (r : kn_H) (a : Nat), kn_w E a (r ++ [x]) = kn_w E a r ++ [(a + r.length, E x)]
  | [], _ => rfl
  | y :: r, a => by
    rw [List.cons_append, kn_w, kn_w_app E x r (a + 1), kn_w, List.cons_append, List.length_cons, Nat.add_assoc, Nat.add_comm 1 r.length]
theorem kn_w_D (E : kn_C → va_E) (r : kn_H) (a : Nat) : va_D (fun q => a ≤ q) (kn_w E a r) := by
  refine ⟨fun i j x y hi hj hxy => ?_, fun k q hk => ?_⟩
  · rw [kn_w_at] at hi hj
    cases h1 : kn_at r i with
    | none => rw [h1] at hi; cases hi
    | some u =>
      cases h2 : kn_at r j with
      | none => rw [h2] at hj; cases hj
      | some w =>
        rw [h1] at hi; rw [h2] at hj
        cases hi; cases hj
        simp only at hxy
        omega
  · rw [kn_w_at] at hk
    cases h1 : kn_at r k with
    | none => rw [h1] at hk; cases hk
    | some u =>
      rw [h1] at hk
      cases hk
      exact Nat.le_add_right _ _
theorem kn_w_get {E : kn_C → va_E} {r : kn_H} {a i : Nat} {x : kn_C} (h : kn_at r i = some x) : (kn_w E a r)[i]? = some (a + i, E x) := by rw [kn_w_at, h]; rfl
theorem kn_ld_mem : ∀ {l : List (Nat × Value)} {i : Nat} {v : Value}, kn_ld l i = some v → (i, v) ∈ l
  | [], _, _, h => by cases h
  | q :: r, i, v, h => by
    rw [kn_ld] at h
    cases hb : Nat.beq q.1 i with
    | true =>
      rw [hb] at h
      have h1 : q.2 = v := Option.some.inj h
      have h2 : q.1 = i := Nat.eq_of_beq_eq_true hb
      rw [← h1, ← h2]
      exact List.mem_cons_self
    | false =>
      rw [hb] at h
      exact List.mem_cons_of_mem _ (kn_ld_mem h)
theorem kn_ld_at {ls : Array Slot} {nL b base i : Nat} {l : List (Nat × Value)} {v : Value} (hl : lv_has ls nL (kn_vs b base l)) (h : kn_ld l i = some v) : ls[i]? = some (.val (kn_v b base v)) := by
  have hm : (i, kn_v b base v) ∈ kn_vs b base l := List.mem_map.mpr ⟨(i, v), kn_ld_mem h, rfl⟩
  exact hl.2.2 _ hm
theorem kn_vs_s1 (b base : Nat) (l : List (Nat × Value)) (i : Nat) (v : Value) : kn_vs b base (kn_s1 l i v) = (i, kn_v b base v) :: (kn_vs b base l).filter (fun q => !(q.1 == i) && !(q.1 + 1 == i && q.2.category == 2)) := by
  simp only [kn_vs, kn_s1, List.map_cons, List.filter_map]
  congr 2
  apply List.filter_congr
  intro q _
  simp [kn_v_cat]
theorem kn_vs_s2 (b base : Nat) (l : List (Nat × Value)) (i : Nat) (v : Value) : kn_vs b base (kn_s2 l i v) = (i, kn_v b base v) :: (kn_vs b base l).filter (fun q => !(q.1 == i) && (!(q.1 == i + 1) && !(q.1 + 1 == i && q.2.category == 2))) := by
  simp only [kn_vs, kn_s2, List.map_cons, List.filter_map]
  congr 2
  apply List.filter_congr
  intro q _
  simp [kn_v_cat]
theorem kn_vs_args (b base : Nat) : ∀ (vs : List Value) (i : Nat), kn_vs b base (lv_args i vs) = lv_args i (vs.map (kn_v b base))
  | [], _ => rfl
  | v :: vs, i => by
    rw [List.map_cons, lv_args, lv_args, kn_v_cat, ← kn_vs_args b base vs]
    rfl
theorem kn_sl_len (b base : Nat) : ∀ (vs : List Value), (lg_sl (vs.map (kn_v b base))).length = (lg_sl vs).length
  | [] => rfl
  | v :: vs => by
    have ih := kn_sl_len b base vs
    simp only [lg_sl, List.map_cons, List.flatMap_cons, List.length_append, kn_v_cat] at ih ⊢
    rw [ih]
    congr 1
    split <;> rfl
theorem kn_cat_map (b base : Nat) (st : List Value) : ((st.map (kn_v b base)).map fun v => v.category).sum = kn_cat st := by
  rw [List.map_map, kn_cat]
  congr 1
  apply List.map_congr_left
  intro v _
  exact kn_v_cat b base v
def kn_tys (cA : FieldType → ClassId) : List (ClassId × FieldType) := [(cA .int, .int), (cA .long, .long), (cA .boolean, .boolean)]
/-- what holds of the machine while a method runs -/
def kn_Ctx (cl : List vw_C) (Tg Ns : List Cond) (b base L : Nat) (xs : Nat → Int32) (cA : FieldType → ClassId) (D : va_G) (M : kn_M) (p : Program) (R : Room) (s : State) (m : MethodId) (args : Array Value) (meth : Method) (c : Code) : Prop :=
  p.tables.exec = Jvm.exec ∧ c.code = M.2.1 ∧ meth.sig.returnType = M.2.2.2.1 ∧ c.maxLocals = M.2.2.1 ∧ s.vm.findClass M.1.cls = some m.cls ∧ (∀ w ∈ Tg, w.before args s = true) ∧ (∀ w ∈ Ns, va_Nw w s) ∧ meth.locks = false ∧ (M.1.name = "<init>" → meth.name = "<init>") ∧
  va_K D cl (kn_tys cA) s ∧ va_X b L xs s s.heap ∧ b < base ∧ base ≤ s.heap.size ∧ M.2.2.2.2.1.1 ≤ R.frames ∧ M.2.2.2.2.1.2 ≤ R.locals
/-- the heap H holds the cells h, k of which were made since the method's entry -/
def kn_Rel (cl : List vw_C) (b base L : Nat) (xs : Nat → Int32) (cA : FieldType → ClassId) (D : va_G) (s : State) (H : Heap) (locs : List Loc) (k : Nat) (h : kn_H) : Prop :=
  ∃ r : kn_H, h = .inl (.int, L, .inl xs) :: r ∧ s.heap.size + k = base + r.length ∧ va_P D cl (kn_w (kn_e cA b base) base r) H ∧ va_S (fun q => base ≤ q) s.heap H locs
/-- from a frame of the machine on -/
def kn_Nx (cl : List vw_C) (b base L : Nat) (xs : Nat → Int32) (cA : FieldType → ClassId) (D : va_G) (nL : Nat) (p : Program) (l : Launch) (e : Env) (R : Room) (s : State) (m : MethodId) (args : Array Value) (below : List Frame) (meth : Method) (c : Code) (Q : State → Prop) (f : kn_F) (h : kn_H) (k z : Nat) : Prop :=
  ∀ (H : Heap) (locs : List Loc) (ls : Array Slot), kn_Rel cl b base L xs cA D s H locs k h → lv_has ls nL (kn_vs b base f.2.1) → W p l e R s m args below meth c H locs k z Q (F0 m f.1 ls (f.2.2.map (kn_v b base)))
theorem kn_bound {p : Program} {l : Launch} {e : Env} {R : Room} {s : State} {m : MethodId} {args : Array Value} {below : List Frame} {meth : Method} {c : Code} {Q : State → Prop} {H : Heap} {locs : List Loc} {k z : Nat} {g : JFrame} (kk : H.size ≤ s.heap.size + k → W p l e R s m args below meth c H locs k z Q g) : W p l e R s m args below meth c H locs k z Q g :=
  fun T hT X => kk (by rw [← hT]; exact X.heapSize) T hT X
theorem kn_to_inv {pc : Nat} {l : List (Nat × Value)} {st : List Value} {h : kn_H} {q : kn_R} (hs : kn_to pc l st h = some q) : q = .inl ((pc, l, st), h, 0, 0) := (Option.some.inj hs).symm

