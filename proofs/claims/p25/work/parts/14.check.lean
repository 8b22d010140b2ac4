/-! what is looked up of an instruction, once for each -/
def kn_ln (e : kn_I) : Nat := match e.1 with
  | .tableswitch .. => e.2.1
  | .bipush _ => 2
  | .iload _ => 2
  | .lload _ => 2
  | .aload _ => 2
  | .istore _ => 2
  | .lstore _ => 2
  | .astore _ => 2
  | .ldc _ => 2
  | .newarray _ => 2
  | .sipush _ => 3
  | .ldc_w _ => 3
  | .ldc2_w _ => 3
  | .iinc .. => 3
  | .ifCond .. => 3
  | .if_icmp .. => 3
  | .ifnull _ => 3
  | .ifnonnull _ => 3
  | .goto _ => 3
  | .getfield _ => 3
  | .putfield _ => 3
  | .new _ => 3
  | .invokevirtual _ => 3
  | .invokespecial _ => 3
  | .invokestatic _ => 3
  | _ => 1
/-- a word stands at a place of the tables, and is one that stays -/
def kn_w1 (Ts : List Cond) (i : Nat) (w : Cond) : Bool := decide (kn_at Ts i = some w) && goodWord w
/-- a call's link, by its own name or by the nest -/
def kn_lk (Ts Ns : List Cond) (own : String) (idx : Nat) (y : MethodName) (nest i : Nat) (ho : String) : Bool := match nest with
  | 0 => kn_w1 Ts i (.methodLink own idx y)
  | _ => decide (kn_at Ns i = some (.methodLinkNest own idx y ho))
def kn_cc (M M1 : kn_M) (n nL : Nat) : Bool := Nat.ble (M1.2.2.2.2.1.1 + 1) M.2.2.2.2.1.1 && (Nat.ble (8 + (M1.2.2.1 + 11) + M1.2.2.2.2.1.2) M.2.2.2.2.1.2 && (Nat.beq nL M1.2.2.1 && (decide (M1.1.cls ≠ "java/lang/invoke/MethodHandle") && (decide (M1.1.cls ≠ "java/lang/invoke/VarHandle") && decide ((parseMethodDescriptor M1.1.desc).map (fun d => d.parameters.length) = some n)))))
def kn_ckF (cl : List vw_C) (Ts : List Cond) (own : String) (idx : Nat) (aux pl : List Nat) : Bool := match aux, pl with
  | ci :: k :: _, i :: _ => match kn_at cl ci with
    | some q => Nat.ble (k + 1) q.2.2 && kn_w1 Ts i (.fieldLink own idx (q.2.1 k).1 (q.2.1 k).2.1 (q.2.1 k).2.2.1)
    | none => false
  | _, _ => false
def kn_ckP (cl : List vw_C) (Ts : List Cond) (y : MethodName) (idx : Nat) (aux pl : List Nat) : Bool := match aux, pl with
  | ci :: k :: tc :: _, i :: _ => match kn_at cl ci with
    | some q => Nat.ble (k + 1) q.2.2 && (kn_w1 Ts i (.fieldLink y.cls idx (q.2.1 k).1 (q.2.1 k).2.1 (q.2.1 k).2.2.1) && ((match parseFieldDescriptor (q.2.1 k).2.2.1 with
      | some ty => Nat.beq (kn_tc ty) tc
      | none => false) && (!(q.2.1 k).2.2.2 || (decide (y.name = "<init>") && decide ((q.2.1 k).1 = y.cls)))))
    | none => false
  | _, _ => false
def kn_ckN (cl : List vw_C) (Ts : List Cond) (own : String) (idx : Nat) (aux pl : List Nat) : Bool := match aux, pl with
  | ci :: N :: tcs, i1 :: i2 :: i3 :: _ => match kn_at cl ci with
    | some q => Nat.beq q.2.2 N && (Nat.beq tcs.length N && ((List.range N).all (fun j => match parseFieldDescriptor (q.2.1 j).2.2.1 with
      | some ty => !(Nat.beq (kn_tc ty) 9) && Nat.beq (tcs.getD j 9) (kn_tc ty)
      | none => false) && (kn_w1 Ts i1 (.classLink own idx q.1) && (kn_w1 Ts i2 (.instantiable q.1 q.2.2) && kn_w1 Ts i3 (.initialized q.1)))))
    | none => false
  | _, _ => false
/-- aux: method, arguments, class, locals, nest; places: link, initialized, instance or static, selects -/
def kn_ckV (cl : List vw_C) (Ts Ns : List Cond) (T : List kn_M) (M : kn_M) (idx : Nat) (aux pl : List Nat) : Bool := match aux, pl with
  | j :: n :: ci :: nL :: ne :: _, i1 :: i2 :: i3 :: i4 :: _ => match kn_at T j, kn_at cl ci with
    | some M1, some q => kn_cc M M1 n nL && (decide (q.1 = M1.1.cls) && (kn_lk Ts Ns M.1.cls idx M1.1 ne i1 "KnotLaw" && (kn_w1 Ts i2 (.initialized M1.1.cls) && (kn_w1 Ts i3 (.instanceMethod M1.1) && kn_w1 Ts i4 (.selects M1.1.cls M1.1 M1.1)))))
    | _, _ => false
  | _, _ => false
def kn_ckI (cl : List vw_C) (Ts Ns : List Cond) (T : List kn_M) (M : kn_M) (idx : Nat) (aux pl : List Nat) : Bool := match aux, pl with
  | [], i1 :: i2 :: _ => kn_w1 Ts i1 (.methodLink M.1.cls idx Lib.objectInit) && (kn_w1 Ts i2 (.instanceMethod Lib.objectInit) && (Nat.ble 1 M.2.2.2.2.1.1 && Nat.ble 20 M.2.2.2.2.1.2))
  | j :: n :: _ :: nL :: ne :: _, i1 :: i2 :: i3 :: _ => match kn_at T j with
    | some M1 => kn_cc M M1 n nL && (decide (M1.1.name = "<init>") && (decide (M1.2.2.2.1 = none) && (kn_lk Ts Ns M.1.cls idx M1.1 ne i1 "KnotLaw" && (kn_w1 Ts i2 (.initialized M1.1.cls) && kn_w1 Ts i3 (.instanceMethod M1.1)))))
    | _ => false
  | _, _ => false
def kn_ckS (Ts Ns : List Cond) (T : List kn_M) (M : kn_M) (idx : Nat) (aux pl : List Nat) : Bool := match aux, pl with
  | [], i1 :: i2 :: i3 :: i4 :: _ => kn_w1 Ts i1 (.methodLink M.1.cls idx arraycopyName) && (kn_w1 Ts i2 (.native arraycopyName) && (kn_w1 Ts i3 (.static arraycopyName) && (kn_w1 Ts i4 (.initialized "java/lang/System") && (Nat.ble 1 M.2.2.2.2.1.1 && Nat.ble (8 + (nativeFrameWords "java/lang/System" "arraycopy" 5 + 11)) M.2.2.2.2.1.2))))
  | [_], i1 :: i2 :: i3 :: _ => kn_w1 Ts i1 (.methodLink M.1.cls idx Lib.Math.max.name) && (kn_w1 Ts i2 (.static Lib.Math.max.name) && (kn_w1 Ts i3 (.initialized "java/lang/Math") && (Nat.ble 1 M.2.2.2.2.1.1 && Nat.ble 21 M.2.2.2.2.1.2)))
  | j :: n :: _ :: nL :: ne :: _, i1 :: i2 :: i3 :: _ => match kn_at T j with
    | some M1 => kn_cc M M1 n nL && (kn_lk Ts Ns M.1.cls idx M1.1 ne i1 "KnotLaw" && (kn_w1 Ts i2 (.initialized M1.1.cls) && kn_w1 Ts i3 (.static M1.1)))
    | _ => false
  | _, _ => false
def kn_ok (cl : List vw_C) (Ts Ns : List Cond) (T : List kn_M) (M : kn_M) (pc : Nat) (e : kn_I) : Bool := decide (decode M.2.1 pc = .ok (e.1, kn_ln e)) && (match e.1 with
  | .ldc idx => kn_w1 Ts (kn_hd e.2.2.2) (.constant M.1.cls idx (Int32.ofNat (kn_hd e.2.2.1)))
  | .ldc_w idx => kn_w1 Ts (kn_hd e.2.2.2) (.constant M.1.cls idx (Int32.ofNat (kn_hd e.2.2.1)))
  | .ldc2_w idx => kn_w1 Ts (kn_hd e.2.2.2) (.constantLong M.1.cls idx (Int64.ofNat (kn_hd e.2.2.1)))
  | .ifCond _ off => decide ((pc : Int) + off = (kn_hd e.2.2.1 : Int))
  | .if_icmp _ off => decide ((pc : Int) + off = (kn_hd e.2.2.1 : Int))
  | .ifnull off => decide ((pc : Int) + off = (kn_hd e.2.2.1 : Int))
  | .ifnonnull off => decide ((pc : Int) + off = (kn_hd e.2.2.1 : Int))
  | .goto off => decide ((pc : Int) + off = (kn_hd e.2.2.1 : Int))
  | .tableswitch dflt _ _ offs => match e.2.2.1 with
    | d :: ts => decide ((pc : Int) + dflt = (d : Int)) && decide (offs.toList.map (fun o => (pc : Int) + o) = ts.map (fun t : Nat => (t : Int)))
    | [] => false
  | .getfield idx => kn_ckF cl Ts M.1.cls idx e.2.2.1 e.2.2.2
  | .putfield idx => kn_ckP cl Ts M.1 idx e.2.2.1 e.2.2.2
  | .new idx => kn_ckN cl Ts M.1.cls idx e.2.2.1 e.2.2.2
  | .newarray t => kn_w1 Ts (kn_hd e.2.2.2) (.arrayClass (newarray.typeOf t))
  | .invokevirtual idx => kn_ckV cl Ts Ns T M idx e.2.2.1 e.2.2.2
  | .invokespecial idx => kn_ckI cl Ts Ns T M idx e.2.2.1 e.2.2.2
  | .invokestatic idx => kn_ckS Ts Ns T M idx e.2.2.1 e.2.2.2
  | _ => true)
/-- all of a method -/
def kn_okM (cl : List vw_C) (Ts Ns : List Cond) (T : List kn_M) (M : kn_M) : Bool := M.2.2.2.2.2.zipIdx.all (fun x => x.1.zipIdx.all (fun y => match y.1 with
  | some e => kn_ok cl Ts Ns T M (16 * x.2 + y.2) e
  | none => true))
theorem kn_okM_at {cl : List vw_C} {Ts Ns : List Cond} {T : List kn_M} {M : kn_M} (h : kn_okM cl Ts Ns T M = true) {pc : Nat} {e : kn_I} (he : kn_code M pc = some e) : kn_ok cl Ts Ns T M pc e = true := by
  unfold kn_code at he
  split at he
  · rename_i ch hch
    split at he
    · rename_i e' he'
      subst he
      rw [kn_at_eq] at hch he'
      have h1 := List.all_eq_true.mp h (ch, pc / 16) (by
        rw [List.mem_zipIdx_iff_getElem?]; exact hch)
      have h2 := List.all_eq_true.mp h1 (some e, pc % 16) (by
        rw [List.mem_zipIdx_iff_getElem?]; exact he')
      have h3 : 16 * (pc / 16) + pc % 16 = pc := Nat.div_add_mod pc 16
      simp only [h3] at h2
      exact h2
    · cases he
  · cases he
/-- what holds of the tables, whatever the state -/
def kn_St (cl : List vw_C) (Ts Tg Ns : List Cond) (T : List kn_M) : Prop :=
  (∀ w, w ∈ Ts → goodWord w = true → w ∈ Tg) ∧ (∀ (j : Nat) (M1 : kn_M), kn_at T j = some M1 → Cond.code M1.1 M1.2.1 M1.2.2.1 M1.2.2.2.1 ∈ Tg ∧ plainName M1.1.cls = true ∧ kn_okM cl Ts Ns T M1 = true) ∧ (Cond.code Lib.objectInit ⟨#[0xb1]⟩ 1 none ∈ Tg ∧ Cond.code Lib.Math.max.name Lib.Math.max.code 2 (some .int) ∈ Tg) ∧
  (∀ w ∈ Tg, (w.onTables && w.keeps) = true ∨ ∃ ty, w = .arrayClass ty) ∧ (∀ (ci : Nat) (q : vw_C), cl[ci]? = some q → (∀ w ∈ u_ws q.1 q.2.1 q.2.2, w ∈ Tg) ∧ (∃ ty0 : Nat → FieldType, ∀ k, k < q.2.2 → parseFieldDescriptor (q.2.1 k).2.2.1 = some (ty0 k)) ∧ (∀ a, a < q.2.2 → ∀ b, b < q.2.2 → a ≠ b → (q.2.1 a).2.1 ≠ (q.2.1 b).2.1)) ∧
  (∀ w ∈ Ns, ∃ (a : String) (i : Nat) (x : MethodName) (h : String), w = .methodLinkNest a i x h)
theorem kn_w1_in {cl : List vw_C} {Ts Tg Ns : List Cond} {T : List kn_M} (S : kn_St cl Ts Tg Ns T) {i : Nat} {w : Cond} (h : kn_w1 Ts i w = true) : w ∈ Tg := by
  obtain ⟨h1, h2⟩ := Bool.and_eq_true_iff.mp h
  have h3 := of_decide_eq_true h1
  rw [kn_at_eq] at h3
  exact S.1 w (List.mem_of_getElem? h3) h2
/-- of a long method, by sixteens of pcs -/
def kn_okC (cl : List vw_C) (Ts Ns : List Cond) (T : List kn_M) (M : kn_M) (i : Nat) : Bool := match kn_at M.2.2.2.2.2 i with
  | some ch => ch.zipIdx.all (fun y => match y.1 with
    | some e => kn_ok cl Ts Ns T M (16 * i + y.2) e
    | none => true)
  | none => true
theorem kn_okM_of {cl : List vw_C} {Ts Ns : List Cond} {T : List kn_M} {M : kn_M} (n : Nat) (hl : M.2.2.2.2.2.length ≤ n) (h : ∀ i, i < n → kn_okC cl Ts Ns T M i = true) : kn_okM cl Ts Ns T M = true := by
  refine List.all_eq_true.mpr (fun x hx => ?_)
  obtain ⟨ch, i⟩ := x
  have hi : M.2.2.2.2.2[i]? = some ch := List.mem_zipIdx_iff_getElem?.mp hx
  have hlt : i < M.2.2.2.2.2.length := (List.getElem?_eq_some_iff.mp hi).1
  have h1 := h i (by omega)
  unfold kn_okC at h1
  rw [kn_at_eq, hi] at h1
  exact h1
