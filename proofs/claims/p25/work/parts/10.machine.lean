/-! A SMALL MACHINE: what the bytecode does, as a function over a list of cells. Place 0 of the list is the script, which nobody writes. -/
/-- a cell: an array (its element type, its length, what it holds), or an object (its class by number, its fields) -/
abbrev kn_C : Type := (FieldType × vp_A) ⊕ (Nat × List Value)
abbrev kn_H : Type := List kn_C
/-- a frame: pc, locals, operands -/
abbrev kn_F : Type := Nat × List (Nat × Value) × List Value
/-- an instruction, its length (of a switch alone), what its number means, where its words stand in the tables -/
abbrev kn_I : Type := Instr × Nat × List Nat × List Nat
/-- a method: its name, its bytes, how many locals, what it returns, how many frames and words its calls need, its instructions by sixteens of pcs -/
abbrev kn_M : Type := MethodName × ByteArray × Nat × Option FieldType × (Nat × Nat) × List (List (Option kn_I))
/-- a step: on to a frame (with so many cells and slots more), a call, or the end -/
abbrev kn_R : Type := (kn_F × kn_H × Nat × Nat) ⊕ (Nat × List Value × kn_F) ⊕ Option Value
def kn_at {α : Type} : List α → Nat → Option α
  | [], _ => none
  | x :: _, 0 => some x
  | _ :: r, n + 1 => kn_at r n
def kn_ld : List (Nat × Value) → Nat → Option Value
  | [], _ => none
  | q :: r, i => bif Nat.beq q.1 i then some q.2 else kn_ld r i
def kn_s1 (l : List (Nat × Value)) (i : Nat) (v : Value) : List (Nat × Value) := (i, v) :: l.filter (fun q => !(q.1 == i) && !(q.1 + 1 == i && q.2.category == 2))
def kn_s2 (l : List (Nat × Value)) (i : Nat) (v : Value) : List (Nat × Value) := (i, v) :: l.filter (fun q => !(q.1 == i) && (!(q.1 == i + 1) && !(q.1 + 1 == i && q.2.category == 2)))
def kn_code (M : kn_M) (pc : Nat) : Option kn_I := match kn_at M.2.2.2.2.2 (pc / 16) with
  | some ch => match kn_at ch (pc % 16) with
    | some e => e
    | none => none
  | none => none
def kn_to (pc : Nat) (l : List (Nat × Value)) (st : List Value) (h : kn_H) : Option kn_R := some (.inl ((pc, l, st), h, 0, 0))
def kn_ldi (pc : Nat) (l : List (Nat × Value)) (i : Nat) (st : List Value) (h : kn_H) : Option kn_R := match kn_ld l i with
  | some (.int x) => kn_to pc l (.int x :: st) h
  | _ => none
def kn_ldl (pc : Nat) (l : List (Nat × Value)) (i : Nat) (st : List Value) (h : kn_H) : Option kn_R := match kn_ld l i with
  | some (.long x) => kn_to pc l (.long x :: st) h
  | _ => none
def kn_lda (pc : Nat) (l : List (Nat × Value)) (i : Nat) (st : List Value) (h : kn_H) : Option kn_R := match kn_ld l i with
  | some (.ref x) => kn_to pc l (.ref x :: st) h
  | some .null => kn_to pc l (.null :: st) h
  | _ => none
def kn_sti (nL pc : Nat) (l : List (Nat × Value)) (i : Nat) (st : List Value) (h : kn_H) : Option kn_R := match st with
  | .int x :: r => bif Nat.ble (i + 1) nL then kn_to pc (kn_s1 l i (.int x)) r h else none
  | _ => none
def kn_stl (nL pc : Nat) (l : List (Nat × Value)) (i : Nat) (st : List Value) (h : kn_H) : Option kn_R := match st with
  | .long x :: r => bif Nat.ble (i + 2) nL then kn_to pc (kn_s2 l i (.long x)) r h else none
  | _ => none
def kn_sta (nL pc : Nat) (l : List (Nat × Value)) (i : Nat) (st : List Value) (h : kn_H) : Option kn_R := match st with
  | .ref x :: r => bif Nat.ble (i + 1) nL then kn_to pc (kn_s1 l i (.ref x)) r h else none
  | .null :: r => bif Nat.ble (i + 1) nL then kn_to pc (kn_s1 l i .null) r h else none
  | _ => none
def kn_inc (nL pc : Nat) (l : List (Nat × Value)) (i : Nat) (n : Int) (st : List Value) (h : kn_H) : Option kn_R := match kn_ld l i with
  | some (.int x) => bif Nat.ble (i + 1) nL then kn_to pc (kn_s1 l i (.int (x + Int32.ofInt n))) st h else none
  | _ => none
def kn_ii (f : Int32 → Int32 → Int32) (pc : Nat) (l : List (Nat × Value)) (st : List Value) (h : kn_H) : Option kn_R := match st with
  | .int y :: .int x :: r => kn_to pc l (.int (f x y) :: r) h
  | _ => none
def kn_id (f : Int32 → Int32 → Int32) (pc : Nat) (l : List (Nat × Value)) (st : List Value) (h : kn_H) : Option kn_R := match st with
  | .int y :: .int x :: r => if y = 0 then none else kn_to pc l (.int (f x y) :: r) h
  | _ => none
def kn_ll (f : Int64 → Int64 → Int64) (pc : Nat) (l : List (Nat × Value)) (st : List Value) (h : kn_H) : Option kn_R := match st with
  | .long y :: .long x :: r => kn_to pc l (.long (f x y) :: r) h
  | _ => none
def kn_ldv (f : Int64 → Int64 → Int64) (pc : Nat) (l : List (Nat × Value)) (st : List Value) (h : kn_H) : Option kn_R := match st with
  | .long y :: .long x :: r => if y = 0 then none else kn_to pc l (.long (f x y) :: r) h
  | _ => none
def kn_li (f : Int64 → Int32 → Int64) (pc : Nat) (l : List (Nat × Value)) (st : List Value) (h : kn_H) : Option kn_R := match st with
  | .int y :: .long x :: r => kn_to pc l (.long (f x y) :: r) h
  | _ => none
def kn_lc (pc : Nat) (l : List (Nat × Value)) (st : List Value) (h : kn_H) : Option kn_R := match st with
  | .long y :: .long x :: r => kn_to pc l (.int (lg_cmp x y) :: r) h
  | _ => none
def kn_1i (f : Int32 → Value) (pc : Nat) (l : List (Nat × Value)) (st : List Value) (h : kn_H) : Option kn_R := match st with
  | .int x :: r => kn_to pc l (f x :: r) h
  | _ => none
def kn_1l (f : Int64 → Value) (pc : Nat) (l : List (Nat × Value)) (st : List Value) (h : kn_H) : Option kn_R := match st with
  | .long x :: r => kn_to pc l (f x :: r) h
  | _ => none
def kn_c1 (v : Value) : Bool := Nat.beq v.category 1
def kn_dup (pc : Nat) (l : List (Nat × Value)) (st : List Value) (h : kn_H) : Option kn_R := match st with
  | a :: r => bif kn_c1 a then kn_to pc l (a :: a :: r) h else none
  | _ => none
def kn_pop (pc : Nat) (l : List (Nat × Value)) (st : List Value) (h : kn_H) : Option kn_R := match st with
  | a :: r => bif kn_c1 a then kn_to pc l r h else none
  | _ => none
def kn_dx1 (pc : Nat) (l : List (Nat × Value)) (st : List Value) (h : kn_H) : Option kn_R := match st with
  | a :: b :: r => bif kn_c1 a && kn_c1 b then kn_to pc l (a :: b :: a :: r) h else none
  | _ => none
def kn_dx2 (pc : Nat) (l : List (Nat × Value)) (st : List Value) (h : kn_H) : Option kn_R := match st with
  | a :: b :: c :: r => bif kn_c1 a && (kn_c1 b && kn_c1 c) then kn_to pc l (a :: b :: c :: a :: r) h else none
  | _ => none
def kn_d2 (pc : Nat) (l : List (Nat × Value)) (st : List Value) (h : kn_H) : Option kn_R := match st with
  | a :: b :: r => bif kn_c1 a && kn_c1 b then kn_to pc l (a :: b :: a :: b :: r) h else none
  | _ => none
/-- a branch by what two ints are to each other -/
def kn_br (c : ClassFile.Cond) (x y : Int32) (t n : Nat) (l : List (Nat × Value)) (st : List Value) (h : kn_H) : Option kn_R := match c with
  | .eq => if x = y then kn_to t l st h else kn_to n l st h
  | .ne => if x = y then kn_to n l st h else kn_to t l st h
  | .lt => if x < y then kn_to t l st h else kn_to n l st h
  | .ge => if y ≤ x then kn_to t l st h else kn_to n l st h
  | .gt => if y < x then kn_to t l st h else kn_to n l st h
  | .le => if x ≤ y then kn_to t l st h else kn_to n l st h
def kn_if (c : ClassFile.Cond) (t n : Nat) (l : List (Nat × Value)) (st : List Value) (h : kn_H) : Option kn_R := match st with
  | .int x :: r => kn_br c x 0 t n l r h
  | _ => none
def kn_cmp (c : ClassFile.Cond) (t n : Nat) (l : List (Nat × Value)) (st : List Value) (h : kn_H) : Option kn_R := match st with
  | .int y :: .int x :: r => kn_br c x y t n l r h
  | _ => none
def kn_nul (t n : Nat) (l : List (Nat × Value)) (st : List Value) (h : kn_H) : Option kn_R := match st with
  | .ref _ :: r => kn_to n l r h
  | .null :: r => kn_to t l r h
  | _ => none
def kn_tab (lo hi : Int) (aux : List Nat) (l : List (Nat × Value)) (st : List Value) (h : kn_H) : Option kn_R := match st, aux with
  | .int x :: r, d :: ts => if x.toInt < lo ∨ hi < x.toInt then kn_to d l r h else match kn_at ts (x.toInt - lo).toNat with
    | some t => kn_to t l r h
    | none => none
  | _, _ => none
/-- fields: aux = class, place, code of the type -/
def kn_get (pc : Nat) (aux : List Nat) (l : List (Nat × Value)) (st : List Value) (h : kn_H) : Option kn_R := match st, aux with
  | .ref a :: r, ci :: k :: _ => match kn_at h a with
    | some (.inr (c, fs)) => bif Nat.beq c ci then (match kn_at fs k with
      | some v => kn_to pc l (v :: r) h
      | none => none) else none
    | _ => none
  | _, _ => none
def kn_fit (tc : Nat) (v : Value) : Bool := match v with
  | .int x => match tc with
    | 0 => true
    | 2 => x == 0 || x == 1
    | _ => false
  | .long _ => Nat.beq tc 1
  | .null => Nat.beq tc 3
  | .ref _ => Nat.beq tc 3
  | _ => false
def kn_put (pc : Nat) (aux : List Nat) (l : List (Nat × Value)) (st : List Value) (h : kn_H) : Option kn_R := match st, aux with
  | v :: .ref (a + 1) :: r, ci :: k :: tc :: _ => match kn_at h (a + 1) with
    | some (.inr (c, fs)) => bif Nat.beq c ci && (Nat.ble (k + 1) fs.length && kn_fit tc v) then kn_to pc l r (h.set (a + 1) (.inr (c, fs.set k v))) else none
    | _ => none
  | _, _ => none
/-- the code of an element type -/
def kn_tc : FieldType → Nat
  | .int => 0
  | .long => 1
  | .boolean => 2
  | .object _ => 3
  | .array _ => 3
  | .byte => 4
  | .short => 5
  | .char => 6
  | _ => 9
def kn_ald (tc : Nat) (pc : Nat) (l : List (Nat × Value)) (st : List Value) (h : kn_H) : Option kn_R := match st with
  | .int i :: .ref a :: r => match kn_at h a with
    | some (.inl (ty, n, .inl f)) => bif Nat.beq (kn_tc ty) tc then (if i < 0 ∨ n ≤ i.toNatClampNeg then none else kn_to pc l (.int (f i.toNatClampNeg) :: r) h) else none
    | _ => none
  | _ => none
def kn_lald (pc : Nat) (l : List (Nat × Value)) (st : List Value) (h : kn_H) : Option kn_R := match st with
  | .int i :: .ref (a + 1) :: r => match kn_at h (a + 1) with
    | some (.inl (ty, n, .inr (.inl f))) => bif Nat.beq (kn_tc ty) 1 then (if i < 0 ∨ n ≤ i.toNatClampNeg then none else kn_to pc l (.long (f i.toNatClampNeg) :: r) h) else none
    | _ => none
  | _ => none
def kn_ast (pc : Nat) (l : List (Nat × Value)) (st : List Value) (h : kn_H) : Option kn_R := match st with
  | .int x :: .int i :: .ref (a + 1) :: r => match kn_at h (a + 1) with
    | some (.inl (ty, n, .inl f)) => bif Nat.beq (kn_tc ty) 0 then (if i < 0 ∨ n ≤ i.toNatClampNeg then none else kn_to pc l r (h.set (a + 1) (.inl (ty, n, .inl (upd f i.toNatClampNeg x))))) else none
    | _ => none
  | _ => none
def kn_bast (pc : Nat) (l : List (Nat × Value)) (st : List Value) (h : kn_H) : Option kn_R := match st with
  | .int x :: .int i :: .ref (a + 1) :: r => match kn_at h (a + 1) with
    | some (.inl (ty, n, .inl f)) => bif Nat.beq (kn_tc ty) 2 then (if i < 0 ∨ n ≤ i.toNatClampNeg then none else kn_to pc l r (h.set (a + 1) (.inl (ty, n, .inl (upd f i.toNatClampNeg (vp_nar .boolean x)))))) else none
    | _ => none
  | _ => none
def kn_last (pc : Nat) (l : List (Nat × Value)) (st : List Value) (h : kn_H) : Option kn_R := match st with
  | .long x :: .int i :: .ref (a + 1) :: r => match kn_at h (a + 1) with
    | some (.inl (ty, n, .inr (.inl f))) => bif Nat.beq (kn_tc ty) 1 then (if i < 0 ∨ n ≤ i.toNatClampNeg then none else kn_to pc l r (h.set (a + 1) (.inl (ty, n, .inr (.inl (vp_updL f i.toNatClampNeg x)))))) else none
    | _ => none
  | _ => none
def kn_len (pc : Nat) (l : List (Nat × Value)) (st : List Value) (h : kn_H) : Option kn_R := match st with
  | .ref a :: r => match kn_at h a with
    | some (.inl (ty, n, _)) => bif Nat.ble (kn_tc ty) 2 then kn_to pc l (.int (Int32.ofNat n) :: r) h else none
    | _ => none
  | _ => none
/-- the default value of a type's code -/
def kn_dv (tc : Nat) : Value := match tc with
  | 1 => .long 0
  | 3 => .null
  | _ => .int 0
def kn_new (pc : Nat) (aux : List Nat) (l : List (Nat × Value)) (st : List Value) (h : kn_H) : Option kn_R := match aux with
  | ci :: N :: tcs => some (.inl ((pc, l, .ref h.length :: st), h ++ [.inr (ci, tcs.map kn_dv)], 1, N))
  | _ => none
def kn_newa (t : ArrayType) (pc : Nat) (l : List (Nat × Value)) (st : List Value) (h : kn_H) : Option kn_R := match st with
  | .int n :: r => if n < 0 ∨ 1000000 < n.toNatClampNeg then none else match t with
    | .int => some (.inl ((pc, l, .ref h.length :: r), h ++ [.inl (.int, n.toNatClampNeg, .inl (fun _ => 0))], 1, n.toNatClampNeg))
    | .boolean => some (.inl ((pc, l, .ref h.length :: r), h ++ [.inl (.boolean, n.toNatClampNeg, .inl (fun _ => 0))], 1, n.toNatClampNeg))
    | .long => some (.inl ((pc, l, .ref h.length :: r), h ++ [.inl (.long, n.toNatClampNeg, .inr (.inl (fun _ => 0)))], 1, n.toNatClampNeg))
    | _ => none
  | _ => none
def kn_cat (st : List Value) : Nat := (st.map fun v => v.category).sum
def kn_copy (pc : Nat) (l : List (Nat × Value)) (st : List Value) (h : kn_H) : Option kn_R := match st with
  | .int n :: .int dp :: .ref (a + 1) :: .int sp :: .ref (b + 1) :: r => match kn_at h (b + 1), kn_at h (a + 1) with
    | some (.inl (t0, n0, .inl f)), some (.inl (t1, n1, .inl g)) => bif Nat.beq (kn_tc t0) 0 && (Nat.beq (kn_tc t1) 0 && Nat.ble (kn_cat r) 8) then
        (if sp < 0 ∨ dp < 0 ∨ n < 0 ∨ n0 < sp.toNatClampNeg + n.toNatClampNeg ∨ n1 < dp.toNatClampNeg + n.toNatClampNeg then none
         else kn_to pc l r (h.set (a + 1) (.inl (t1, n1, .inl (va_cpy f g sp.toNatClampNeg dp.toNatClampNeg n.toNatClampNeg))))) else none
    | some (.inl (t0, n0, .inr (.inl f))), some (.inl (t1, n1, .inr (.inl g))) => bif Nat.beq (kn_tc t0) 1 && (Nat.beq (kn_tc t1) 1 && Nat.ble (kn_cat r) 8) then
        (if sp < 0 ∨ dp < 0 ∨ n < 0 ∨ n0 < sp.toNatClampNeg + n.toNatClampNeg ∨ n1 < dp.toNatClampNeg + n.toNatClampNeg then none
         else kn_to pc l r (h.set (a + 1) (.inl (t1, n1, .inr (.inl (va_cpy f g sp.toNatClampNeg dp.toNatClampNeg n.toNatClampNeg)))))) else none
    | _, _ => none
  | _ => none
/-- a call: aux = which method, how many arguments (its receiver not counted), its class, its locals -/
def kn_cv (pc : Nat) (aux : List Nat) (l : List (Nat × Value)) (st : List Value) (h : kn_H) : Option kn_R := match aux with
  | j :: n :: ci :: nL :: _ => match st.drop n with
    | .ref a :: r => match kn_at h a with
      | some (.inr (c, _)) => bif Nat.beq c ci && (Nat.beq (st.take n).length n && (Nat.ble (kn_cat r) 8 && Nat.ble (lg_sl (.ref a :: (st.take n).reverse)).length nL)) then some (.inr (.inl (j, .ref a :: (st.take n).reverse, (pc, l, r)))) else none
      | _ => none
    | _ => none
  | _ => none
def kn_cs (pc : Nat) (aux : List Nat) (l : List (Nat × Value)) (st : List Value) : Option kn_R := match aux with
  | j :: n :: _ :: nL :: _ => bif Nat.beq (st.take n).length n && (Nat.ble (kn_cat (st.drop n)) 8 && Nat.ble (lg_sl (st.take n).reverse).length nL) then some (.inr (.inl (j, (st.take n).reverse, (pc, l, st.drop n)))) else none
  | _ => none
/-- invokespecial: aux = [] is Object.<init> -/
def kn_ci (pc : Nat) (aux : List Nat) (l : List (Nat × Value)) (st : List Value) (h : kn_H) : Option kn_R := match aux with
  | [] => match st with
    | .ref _ :: r => bif Nat.ble (kn_cat r) 8 then kn_to pc l r h else none
    | _ => none
  | _ => kn_cv pc aux l st h
def kn_mx (pc : Nat) (l : List (Nat × Value)) (st : List Value) (h : kn_H) : Option kn_R := match st with
  | .int y :: .int x :: r => bif Nat.ble (kn_cat r) 8 then kn_to pc l (.int (if x < y then y else x) :: r) h else none
  | _ => none
/-- invokestatic: aux = [] is System.arraycopy, one number Math.max -/
def kn_cst (pc : Nat) (aux : List Nat) (l : List (Nat × Value)) (st : List Value) (h : kn_H) : Option kn_R := match aux with
  | [] => kn_copy pc l st h
  | [_] => kn_mx pc l st h
  | _ => kn_cs pc aux l st
def kn_ri (ret : Option FieldType) (st : List Value) : Option kn_R := match ret, st with
  | some .int, [.int v] => some (.inr (.inr (some (.int v))))
  | some .boolean, [.int v] => bif v == 0 || v == 1 then some (.inr (.inr (some (.int v)))) else none
  | _, _ => none
def kn_rl (ret : Option FieldType) (st : List Value) : Option kn_R := match ret, st with
  | some .long, [.long v] => some (.inr (.inr (some (.long v))))
  | _, _ => none
def kn_rv (ret : Option FieldType) (st : List Value) : Option kn_R := match ret, st with
  | none, [] => some (.inr (.inr none))
  | _, _ => none
def kn_hd (aux : List Nat) : Nat := match aux with
  | t :: _ => t
  | [] => 0
def kn_step (nL : Nat) (ret : Option FieldType) (i : kn_I) (pc : Nat) (l : List (Nat × Value)) (st : List Value) (h : kn_H) : Option kn_R := match i.1 with
  | .iconst n => kn_to (pc + 1) l (.int (Int32.ofInt n) :: st) h
  | .bipush n => kn_to (pc + 2) l (.int (Int8.ofInt n).toInt32 :: st) h
  | .sipush n => kn_to (pc + 3) l (.int (Int16.ofInt n).toInt32 :: st) h
  | .lconst n => kn_to (pc + 1) l (.long (Int64.ofNat (n : Nat)) :: st) h
  | .ldc _ => kn_to (pc + 2) l (.int (Int32.ofNat (kn_hd i.2.2.1)) :: st) h
  | .ldc_w _ => kn_to (pc + 3) l (.int (Int32.ofNat (kn_hd i.2.2.1)) :: st) h
  | .ldc2_w _ => kn_to (pc + 3) l (.long (Int64.ofNat (kn_hd i.2.2.1)) :: st) h
  | .aconst_null => kn_to (pc + 1) l (.null :: st) h
  | .iload_n k => kn_ldi (pc + 1) l k st h
  | .iload k => kn_ldi (pc + 2) l k st h
  | .lload_n k => kn_ldl (pc + 1) l k st h
  | .lload k => kn_ldl (pc + 2) l k st h
  | .aload_n k => kn_lda (pc + 1) l k st h
  | .aload k => kn_lda (pc + 2) l k st h
  | .istore_n k => kn_sti nL (pc + 1) l k st h
  | .istore k => kn_sti nL (pc + 2) l k st h
  | .lstore_n k => kn_stl nL (pc + 1) l k st h
  | .lstore k => kn_stl nL (pc + 2) l k st h
  | .astore_n k => kn_sta nL (pc + 1) l k st h
  | .astore k => kn_sta nL (pc + 2) l k st h
  | .iinc k n => kn_inc nL (pc + 3) l k n st h
  | .iadd => kn_ii (fun x y => x + y) (pc + 1) l st h
  | .isub => kn_ii (fun x y => x - y) (pc + 1) l st h
  | .imul => kn_ii (fun x y => x * y) (pc + 1) l st h
  | .iand => kn_ii (fun x y => x &&& y) (pc + 1) l st h
  | .ior => kn_ii (fun x y => x ||| y) (pc + 1) l st h
  | .ixor => kn_ii (fun x y => x ^^^ y) (pc + 1) l st h
  | .ishl => kn_ii (fun x y => x <<< (y &&& 31)) (pc + 1) l st h
  | .ishr => kn_ii (fun x y => x >>> (y &&& 31)) (pc + 1) l st h
  | .iushr => kn_ii (fun x y => (x.toUInt32 >>> (y.toUInt32 &&& Int32.toUInt32 31)).toInt32) (pc + 1) l st h
  | .idiv => kn_id (fun x y => x / y) (pc + 1) l st h
  | .irem => kn_id (fun x y => x - x / y * y) (pc + 1) l st h
  | .ineg => kn_1i (fun x => .int (-x)) (pc + 1) l st h
  | .i2l => kn_1i (fun x => .long x.toInt64) (pc + 1) l st h
  | .i2b => kn_1i (fun x => .int x.toInt8.toInt32) (pc + 1) l st h
  | .i2s => kn_1i (fun x => .int x.toInt16.toInt32) (pc + 1) l st h
  | .i2c => kn_1i (fun x => .int (x.toUInt32 % 65536).toInt32) (pc + 1) l st h
  | .l2i => kn_1l (fun x => .int x.toInt32) (pc + 1) l st h
  | .lneg => kn_1l (fun x => .long (-x)) (pc + 1) l st h
  | .ladd => kn_ll (fun x y => x + y) (pc + 1) l st h
  | .lsub => kn_ll (fun x y => x - y) (pc + 1) l st h
  | .lmul => kn_ll (fun x y => x * y) (pc + 1) l st h
  | .land => kn_ll (fun x y => x &&& y) (pc + 1) l st h
  | .lor => kn_ll (fun x y => x ||| y) (pc + 1) l st h
  | .lxor => kn_ll (fun x y => x ^^^ y) (pc + 1) l st h
  | .ldiv => kn_ldv (fun x y => x / y) (pc + 1) l st h
  | .lrem => kn_ldv (fun x y => x - x / y * y) (pc + 1) l st h
  | .lshl => kn_li (fun x y => x <<< (y.toInt64 &&& 63)) (pc + 1) l st h
  | .lshr => kn_li (fun x y => x >>> (y.toInt64 &&& 63)) (pc + 1) l st h
  | .lushr => kn_li (fun x y => (x.toUInt64 >>> (y.toInt64.toUInt64 &&& Int64.toUInt64 63)).toInt64) (pc + 1) l st h
  | .lcmp => kn_lc (pc + 1) l st h
  | .dup => kn_dup (pc + 1) l st h
  | .pop => kn_pop (pc + 1) l st h
  | .dup_x1 => kn_dx1 (pc + 1) l st h
  | .dup_x2 => kn_dx2 (pc + 1) l st h
  | .dup2 => kn_d2 (pc + 1) l st h
  | .ifCond c _ => kn_if c (kn_hd i.2.2.1) (pc + 3) l st h
  | .if_icmp c _ => kn_cmp c (kn_hd i.2.2.1) (pc + 3) l st h
  | .ifnull _ => kn_nul (kn_hd i.2.2.1) (pc + 3) l st h
  | .ifnonnull _ => kn_nul (pc + 3) (kn_hd i.2.2.1) l st h
  | .goto _ => kn_to (kn_hd i.2.2.1) l st h
  | .tableswitch _ lo hi _ => kn_tab lo hi i.2.2.1 l st h
  | .getfield _ => kn_get (pc + 3) i.2.2.1 l st h
  | .putfield _ => kn_put (pc + 3) i.2.2.1 l st h
  | .iaload => kn_ald 0 (pc + 1) l st h
  | .baload => kn_ald 2 (pc + 1) l st h
  | .laload => kn_lald (pc + 1) l st h
  | .iastore => kn_ast (pc + 1) l st h
  | .bastore => kn_bast (pc + 1) l st h
  | .lastore => kn_last (pc + 1) l st h
  | .arraylength => kn_len (pc + 1) l st h
  | .new _ => kn_new (pc + 3) i.2.2.1 l st h
  | .newarray t => kn_newa t (pc + 2) l st h
  | .invokevirtual _ => kn_cv (pc + 3) i.2.2.1 l st h
  | .invokespecial _ => kn_ci (pc + 3) i.2.2.1 l st h
  | .invokestatic _ => kn_cst (pc + 3) i.2.2.1 l st h
  | .ireturn => kn_ri ret st
  | .lreturn => kn_rl ret st
  | .return_ => kn_rv ret st
  | _ => none
/-- the run: n steps at most; what it returns, the cells then, how many cells and slots it made -/
def kn_run (T : List kn_M) : Nat → kn_M → kn_F → kn_H → Option (Option Value × kn_H × Nat × Nat)
  | 0, _, _, _ => none
  | n + 1, M, f, h => match kn_code M f.1 with
    | none => none
    | some i => match kn_step M.2.2.1 M.2.2.2.1 i f.1 f.2.1 f.2.2 h with
      | none => none
      | some (.inl (f1, h1, k, z)) => (kn_run T n M f1 h1).map (fun r => (r.1, r.2.1, k + r.2.2.1, z + r.2.2.2))
      | some (.inr (.inr v)) => some (v, h, 0, 0)
      | some (.inr (.inl (j, as, f1))) => match kn_at T j with
        | none => none
        | some M1 => match kn_run T n M1 (0, lv_args 0 as, []) h with
          | none => none
          | some (v, h1, k, z) => (kn_run T n M (f1.1, f1.2.1, v.toList ++ f1.2.2) h1).map (fun r => (r.1, r.2.1, k + r.2.2.1, z + r.2.2.2))
