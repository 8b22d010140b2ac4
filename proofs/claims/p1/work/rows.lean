section
-- ===== PART A: goes FIRST, ahead of the names: the tables' words, and 'selects' of the private methods out of them =====
/-- a private method of a class that the tables say can be made, by its rows of tables_1 -/
def lw_okq (q : MethodName × Nat) : Prop := (q.1.cls ≠ "java/lang/invoke/MethodHandle" ∧ q.1.cls ≠ "java/lang/invoke/VarHandle") ∧ Cond.instantiable q.1.cls q.2 ∈ tables_1 ∧ Cond.privateMethod q.1 ∈ tables_1 ∧ Cond.instanceMethod q.1 ∈ tables_1
theorem lw_p0 : lw_okq (⟨"KnotLaw", "isClause", "(I)Z"⟩, 6) := ⟨⟨by decide +kernel, by decide +kernel⟩, List.mem_of_getElem? (i := 13) (by decide +kernel), List.mem_of_getElem? (i := 208) (by decide +kernel), List.mem_of_getElem? (i := 209) (by decide +kernel)⟩
theorem lw_p1 : lw_okq (⟨"KnotLaw$Reader", "readClauses", "()Z"⟩, 4) := ⟨⟨by decide +kernel, by decide +kernel⟩, List.mem_of_getElem? (i := 128) (by decide +kernel), List.mem_of_getElem? (i := 260) (by decide +kernel), List.mem_of_getElem? (i := 261) (by decide +kernel)⟩
theorem lw_p2 : lw_okq (⟨"KnotLaw$Reader", "readClause", "()Z"⟩, 4) := ⟨⟨by decide +kernel, by decide +kernel⟩, List.mem_of_getElem? (i := 128) (by decide +kernel), List.mem_of_getElem? (i := 264) (by decide +kernel), List.mem_of_getElem? (i := 265) (by decide +kernel)⟩
theorem lw_p3 : lw_okq (⟨"KnotLaw$Reader", "nextLetter", "()I"⟩, 4) := ⟨⟨by decide +kernel, by decide +kernel⟩, List.mem_of_getElem? (i := 128) (by decide +kernel), List.mem_of_getElem? (i := 268) (by decide +kernel), List.mem_of_getElem? (i := 269) (by decide +kernel)⟩
theorem lw_p4 : lw_okq (⟨"KnotLaw$Reader", "letterAt", "(I)I"⟩, 4) := ⟨⟨by decide +kernel, by decide +kernel⟩, List.mem_of_getElem? (i := 128) (by decide +kernel), List.mem_of_getElem? (i := 272) (by decide +kernel), List.mem_of_getElem? (i := 273) (by decide +kernel)⟩
theorem lw_p5 : lw_okq (⟨"KnotLaw$Reader", "readHolds", "()I"⟩, 4) := ⟨⟨by decide +kernel, by decide +kernel⟩, List.mem_of_getElem? (i := 128) (by decide +kernel), List.mem_of_getElem? (i := 279) (by decide +kernel), List.mem_of_getElem? (i := 280) (by decide +kernel)⟩
theorem lw_p6 : lw_okq (⟨"KnotLaw$Reader", "readBarred", "()I"⟩, 4) := ⟨⟨by decide +kernel, by decide +kernel⟩, List.mem_of_getElem? (i := 128) (by decide +kernel), List.mem_of_getElem? (i := 287) (by decide +kernel), List.mem_of_getElem? (i := 288) (by decide +kernel)⟩
theorem lw_p7 : lw_okq (⟨"KnotLaw$Foretold", "fillDepths", "(LKnotLaw$Rope;)V"⟩, 3) := ⟨⟨by decide +kernel, by decide +kernel⟩, List.mem_of_getElem? (i := 112) (by decide +kernel), List.mem_of_getElem? (i := 412) (by decide +kernel), List.mem_of_getElem? (i := 413) (by decide +kernel)⟩
theorem lw_p8 : lw_okq (⟨"KnotLaw$Foretold", "deepestAmong", "(I)I"⟩, 3) := ⟨⟨by decide +kernel, by decide +kernel⟩, List.mem_of_getElem? (i := 112) (by decide +kernel), List.mem_of_getElem? (i := 417) (by decide +kernel), List.mem_of_getElem? (i := 418) (by decide +kernel)⟩
theorem lw_p9 : lw_okq (⟨"KnotLaw$Foretold", "fillBars", "(LKnotLaw$Rope;)V"⟩, 3) := ⟨⟨by decide +kernel, by decide +kernel⟩, List.mem_of_getElem? (i := 112) (by decide +kernel), List.mem_of_getElem? (i := 457) (by decide +kernel), List.mem_of_getElem? (i := 458) (by decide +kernel)⟩
theorem lw_p10 : lw_okq (⟨"KnotLaw$Foretold", "countWays", "(I)I"⟩, 3) := ⟨⟨by decide +kernel, by decide +kernel⟩, List.mem_of_getElem? (i := 112) (by decide +kernel), List.mem_of_getElem? (i := 461) (by decide +kernel), List.mem_of_getElem? (i := 462) (by decide +kernel)⟩
theorem lw_p11 : lw_okq (⟨"KnotLaw$Foretold", "waysTo", "(I)I"⟩, 3) := ⟨⟨by decide +kernel, by decide +kernel⟩, List.mem_of_getElem? (i := 112) (by decide +kernel), List.mem_of_getElem? (i := 465) (by decide +kernel), List.mem_of_getElem? (i := 466) (by decide +kernel)⟩
theorem lw_p12 : lw_okq (⟨"KnotLaw$Sheets", "isInside", "(III)Z"⟩, 3) := ⟨⟨by decide +kernel, by decide +kernel⟩, List.mem_of_getElem? (i := 150) (by decide +kernel), List.mem_of_getElem? (i := 533) (by decide +kernel), List.mem_of_getElem? (i := 534) (by decide +kernel)⟩
theorem lw_p13 : lw_okq (⟨"KnotLaw", "areForces", "(III)Z"⟩, 6) := ⟨⟨by decide +kernel, by decide +kernel⟩, List.mem_of_getElem? (i := 13) (by decide +kernel), List.mem_of_getElem? (i := 537) (by decide +kernel), List.mem_of_getElem? (i := 538) (by decide +kernel)⟩
theorem lw_p14 : lw_okq (⟨"KnotLaw", "kindsFelt", "(IIII)I"⟩, 6) := ⟨⟨by decide +kernel, by decide +kernel⟩, List.mem_of_getElem? (i := 13) (by decide +kernel), List.mem_of_getElem? (i := 546) (by decide +kernel), List.mem_of_getElem? (i := 547) (by decide +kernel)⟩
theorem lw_p15 : lw_okq (⟨"KnotLaw", "isAsTold", "(III)Z"⟩, 6) := ⟨⟨by decide +kernel, by decide +kernel⟩, List.mem_of_getElem? (i := 13) (by decide +kernel), List.mem_of_getElem? (i := 551) (by decide +kernel), List.mem_of_getElem? (i := 552) (by decide +kernel)⟩
def lw_privs_1 : List (MethodName × Nat) := [(⟨"KnotLaw", "isClause", "(I)Z"⟩, 6), (⟨"KnotLaw$Reader", "readClauses", "()Z"⟩, 4), (⟨"KnotLaw$Reader", "readClause", "()Z"⟩, 4), (⟨"KnotLaw$Reader", "nextLetter", "()I"⟩, 4), (⟨"KnotLaw$Reader", "letterAt", "(I)I"⟩, 4), (⟨"KnotLaw$Reader", "readHolds", "()I"⟩, 4), (⟨"KnotLaw$Reader", "readBarred", "()I"⟩, 4), (⟨"KnotLaw$Foretold", "fillDepths", "(LKnotLaw$Rope;)V"⟩, 3), (⟨"KnotLaw$Foretold", "deepestAmong", "(I)I"⟩, 3), (⟨"KnotLaw$Foretold", "fillBars", "(LKnotLaw$Rope;)V"⟩, 3), (⟨"KnotLaw$Foretold", "countWays", "(I)I"⟩, 3), (⟨"KnotLaw$Foretold", "waysTo", "(I)I"⟩, 3), (⟨"KnotLaw$Sheets", "isInside", "(III)Z"⟩, 3), (⟨"KnotLaw", "areForces", "(III)Z"⟩, 6), (⟨"KnotLaw", "kindsFelt", "(IIII)I"⟩, 6), (⟨"KnotLaw", "isAsTold", "(III)Z"⟩, 6)]
theorem lw_r1 : ∀ q ∈ lw_privs_1, lw_okq q := List.forall_mem_cons.mpr ⟨lw_p0, List.forall_mem_cons.mpr ⟨lw_p1, List.forall_mem_cons.mpr ⟨lw_p2, List.forall_mem_cons.mpr ⟨lw_p3, List.forall_mem_cons.mpr ⟨lw_p4, List.forall_mem_cons.mpr ⟨lw_p5, List.forall_mem_cons.mpr ⟨lw_p6, List.forall_mem_cons.mpr ⟨lw_p7, List.forall_mem_cons.mpr ⟨lw_p8, List.forall_mem_cons.mpr ⟨lw_p9, List.forall_mem_cons.mpr ⟨lw_p10, List.forall_mem_cons.mpr ⟨lw_p11, List.forall_mem_cons.mpr ⟨lw_p12, List.forall_mem_cons.mpr ⟨lw_p13, List.forall_mem_cons.mpr ⟨lw_p14, List.forall_mem_cons.mpr ⟨lw_p15, fun _ h => absurd h List.not_mem_nil⟩⟩⟩⟩⟩⟩⟩⟩⟩⟩⟩⟩⟩⟩⟩⟩
theorem lw_p16 : lw_okq (⟨"KnotLaw", "holdsFelt", "(IIII)I"⟩, 6) := ⟨⟨by decide +kernel, by decide +kernel⟩, List.mem_of_getElem? (i := 13) (by decide +kernel), List.mem_of_getElem? (i := 555) (by decide +kernel), List.mem_of_getElem? (i := 556) (by decide +kernel)⟩
theorem lw_p17 : lw_okq (⟨"KnotLawModel", "isClause", "(I)Z"⟩, 14) := ⟨⟨by decide +kernel, by decide +kernel⟩, List.mem_of_getElem? (i := 600) (by decide +kernel), List.mem_of_getElem? (i := 664) (by decide +kernel), List.mem_of_getElem? (i := 665) (by decide +kernel)⟩
theorem lw_p18 : lw_okq (⟨"KnotLawModel", "owedBy", "(I)I"⟩, 14) := ⟨⟨by decide +kernel, by decide +kernel⟩, List.mem_of_getElem? (i := 600) (by decide +kernel), List.mem_of_getElem? (i := 684) (by decide +kernel), List.mem_of_getElem? (i := 685) (by decide +kernel)⟩
theorem lw_p19 : lw_okq (⟨"KnotLawModel", "isAgreement", "()Z"⟩, 14) := ⟨⟨by decide +kernel, by decide +kernel⟩, List.mem_of_getElem? (i := 600) (by decide +kernel), List.mem_of_getElem? (i := 700) (by decide +kernel), List.mem_of_getElem? (i := 701) (by decide +kernel)⟩
theorem lw_p20 : lw_okq (⟨"KnotLawModel", "isClauseItem", "()Z"⟩, 14) := ⟨⟨by decide +kernel, by decide +kernel⟩, List.mem_of_getElem? (i := 600) (by decide +kernel), List.mem_of_getElem? (i := 704) (by decide +kernel), List.mem_of_getElem? (i := 705) (by decide +kernel)⟩
theorem lw_p21 : lw_okq (⟨"KnotLawModel", "peek", "()I"⟩, 14) := ⟨⟨by decide +kernel, by decide +kernel⟩, List.mem_of_getElem? (i := 600) (by decide +kernel), List.mem_of_getElem? (i := 708) (by decide +kernel), List.mem_of_getElem? (i := 709) (by decide +kernel)⟩
theorem lw_p22 : lw_okq (⟨"KnotLawModel", "isNumber", "()Z"⟩, 14) := ⟨⟨by decide +kernel, by decide +kernel⟩, List.mem_of_getElem? (i := 600) (by decide +kernel), List.mem_of_getElem? (i := 715) (by decide +kernel), List.mem_of_getElem? (i := 716) (by decide +kernel)⟩
theorem lw_p23 : lw_okq (⟨"KnotLawModel", "isDigit", "(II)Z"⟩, 14) := ⟨⟨by decide +kernel, by decide +kernel⟩, List.mem_of_getElem? (i := 600) (by decide +kernel), List.mem_of_getElem? (i := 719) (by decide +kernel), List.mem_of_getElem? (i := 720) (by decide +kernel)⟩
theorem lw_p24 : lw_okq (⟨"KnotLawModel", "isSign", "(I)Z"⟩, 14) := ⟨⟨by decide +kernel, by decide +kernel⟩, List.mem_of_getElem? (i := 600) (by decide +kernel), List.mem_of_getElem? (i := 723) (by decide +kernel), List.mem_of_getElem? (i := 724) (by decide +kernel)⟩
theorem lw_p25 : lw_okq (⟨"KnotLawModel", "boundOnes", "()I"⟩, 14) := ⟨⟨by decide +kernel, by decide +kernel⟩, List.mem_of_getElem? (i := 600) (by decide +kernel), List.mem_of_getElem? (i := 737) (by decide +kernel), List.mem_of_getElem? (i := 738) (by decide +kernel)⟩
theorem lw_p26 : lw_okq (⟨"KnotLawModel", "note", "()V"⟩, 14) := ⟨⟨by decide +kernel, by decide +kernel⟩, List.mem_of_getElem? (i := 600) (by decide +kernel), List.mem_of_getElem? (i := 745) (by decide +kernel), List.mem_of_getElem? (i := 746) (by decide +kernel)⟩
theorem lw_p27 : lw_okq (⟨"KnotLawModel", "begin", "()V"⟩, 14) := ⟨⟨by decide +kernel, by decide +kernel⟩, List.mem_of_getElem? (i := 600) (by decide +kernel), List.mem_of_getElem? (i := 795) (by decide +kernel), List.mem_of_getElem? (i := 796) (by decide +kernel)⟩
theorem lw_p28 : lw_okq (⟨"KnotLawModel", "needsOf", "(I)I"⟩, 14) := ⟨⟨by decide +kernel, by decide +kernel⟩, List.mem_of_getElem? (i := 600) (by decide +kernel), List.mem_of_getElem? (i := 807) (by decide +kernel), List.mem_of_getElem? (i := 808) (by decide +kernel)⟩
theorem lw_p29 : lw_okq (⟨"KnotLawModel", "layWays", "(II)V"⟩, 14) := ⟨⟨by decide +kernel, by decide +kernel⟩, List.mem_of_getElem? (i := 600) (by decide +kernel), List.mem_of_getElem? (i := 826) (by decide +kernel), List.mem_of_getElem? (i := 827) (by decide +kernel)⟩
theorem lw_p30 : lw_okq (⟨"KnotLawModel", "wrong", "(IIII)I"⟩, 14) := ⟨⟨by decide +kernel, by decide +kernel⟩, List.mem_of_getElem? (i := 600) (by decide +kernel), List.mem_of_getElem? (i := 868) (by decide +kernel), List.mem_of_getElem? (i := 869) (by decide +kernel)⟩
def lw_privs_2 : List (MethodName × Nat) := [(⟨"KnotLaw", "holdsFelt", "(IIII)I"⟩, 6), (⟨"KnotLawModel", "isClause", "(I)Z"⟩, 14), (⟨"KnotLawModel", "owedBy", "(I)I"⟩, 14), (⟨"KnotLawModel", "isAgreement", "()Z"⟩, 14), (⟨"KnotLawModel", "isClauseItem", "()Z"⟩, 14), (⟨"KnotLawModel", "peek", "()I"⟩, 14), (⟨"KnotLawModel", "isNumber", "()Z"⟩, 14), (⟨"KnotLawModel", "isDigit", "(II)Z"⟩, 14), (⟨"KnotLawModel", "isSign", "(I)Z"⟩, 14), (⟨"KnotLawModel", "boundOnes", "()I"⟩, 14), (⟨"KnotLawModel", "note", "()V"⟩, 14), (⟨"KnotLawModel", "begin", "()V"⟩, 14), (⟨"KnotLawModel", "needsOf", "(I)I"⟩, 14), (⟨"KnotLawModel", "layWays", "(II)V"⟩, 14), (⟨"KnotLawModel", "wrong", "(IIII)I"⟩, 14)]
theorem lw_r2 : ∀ q ∈ lw_privs_2, lw_okq q := List.forall_mem_cons.mpr ⟨lw_p16, List.forall_mem_cons.mpr ⟨lw_p17, List.forall_mem_cons.mpr ⟨lw_p18, List.forall_mem_cons.mpr ⟨lw_p19, List.forall_mem_cons.mpr ⟨lw_p20, List.forall_mem_cons.mpr ⟨lw_p21, List.forall_mem_cons.mpr ⟨lw_p22, List.forall_mem_cons.mpr ⟨lw_p23, List.forall_mem_cons.mpr ⟨lw_p24, List.forall_mem_cons.mpr ⟨lw_p25, List.forall_mem_cons.mpr ⟨lw_p26, List.forall_mem_cons.mpr ⟨lw_p27, List.forall_mem_cons.mpr ⟨lw_p28, List.forall_mem_cons.mpr ⟨lw_p29, List.forall_mem_cons.mpr ⟨lw_p30, fun _ h => absurd h List.not_mem_nil⟩⟩⟩⟩⟩⟩⟩⟩⟩⟩⟩⟩⟩⟩⟩
def lw_privs : List (MethodName × Nat) := lw_privs_1 ++ (lw_privs_2)
def lw_tbl : List Cond := k2_sels lw_privs ++ tables_1
theorem lw_privs_ok : ∀ q ∈ lw_privs, lw_okq q := by
  show ∀ q ∈ lw_privs_1 ++ (lw_privs_2), lw_okq q
  exact List.forall_mem_append.mpr ⟨lw_r1, lw_r2⟩
end
section
/-! A SMALL MACHINE: what the bytecode does, as a function over a list of cells. Place 0 of the list is the script, which nobody writes. -/
/-- a cell: an array (its element type, its length, what it holds), or an object (its class by number, its fields) -/
abbrev kn_C : Type := (FieldType × vp_A) ⊕ (Nat × List Value)
abbrev kn_H : Type := List kn_C
/-- a frame: pc, locals, operands -/
abbrev kn_F : Type := Nat × List (Nat × Value) × List Value
/-- an instruction, its length (of a switch alone), what its number means, where its words stand in the tables -/
abbrev kn_I : Type := Instr × Nat × List Nat × List Nat
/-- a method: its name, its bytes, how many locals, what it returns, how many frames and words its calls need, its instructions by sixteens of pcs -/
abbrev kn_M : Type := MethodName × ByteArray × Nat × Option FieldType × (Nat × Nat) × List (List (Option kn_I))
/-- a step: on to a frame (with so many cells and slots more), a call, or the end -/
abbrev kn_R : Type := (kn_F × kn_H × Nat × Nat) ⊕ (Nat × List Value × kn_F) ⊕ Option Value
def kn_at {α : Type} : List α → Nat → Option α
  | [], _ => none
  | x :: _, 0 => some x
  | _ :: r, n + 1 => kn_at r n
def kn_ld : List (Nat × Value) → Nat → Option Value
  | [], _ => none
  | q :: r, i => bif Nat.beq q.1 i then some q.2 else kn_ld r i
def kn_s1 (l : List (Nat × Value)) (i : Nat) (v : Value) : List (Nat × Value) := (i, v) :: l.filter (fun q => !(q.1 == i) && !(q.1 + 1 == i && q.2.category == 2))
def kn_s2 (l : List (Nat × Value)) (i : Nat) (v : Value) : List (Nat × Value) := (i, v) :: l.filter (fun q => !(q.1 == i) && (!(q.1 == i + 1) && !(q.1 + 1 == i && q.2.category == 2)))
def kn_code (M : kn_M) (pc : Nat) : Option kn_I := match kn_at M.2.2.2.2.2 (pc / 16) with
  | some ch => match kn_at ch (pc % 16) with
    | some e => e
    | none => none
  | none => none
def kn_to (pc : Nat) (l : List (Nat × Value)) (st : List Value) (h : kn_H) : Option kn_R := some (.inl ((pc, l, st), h, 0, 0))
def kn_ldi (pc : Nat) (l : List (Nat × Value)) (i : Nat) (st : List Value) (h : kn_H) : Option kn_R := match kn_ld l i with
  | some (.int x) => kn_to pc l (.int x :: st) h
  | _ => none
def kn_ldl (pc : Nat) (l : List (Nat × Value)) (i : Nat) (st : List Value) (h : kn_H) : Option kn_R := match kn_ld l i with
  | some (.long x) => kn_to pc l (.long x :: st) h
  | _ => none
def kn_lda (pc : Nat) (l : List (Nat × Value)) (i : Nat) (st : List Value) (h : kn_H) : Option kn_R := match kn_ld l i with
  | some (.ref x) => kn_to pc l (.ref x :: st) h
  | some .null => kn_to pc l (.null :: st) h
  | _ => none
def kn_sti (nL pc : Nat) (l : List (Nat × Value)) (i : Nat) (st : List Value) (h : kn_H) : Option kn_R := match st with
  | .int x :: r => bif Nat.ble (i + 1) nL then kn_to pc (kn_s1 l i (.int x)) r h else none
  | _ => none
def kn_stl (nL pc : Nat) (l : List (Nat × Value)) (i : Nat) (st : List Value) (h : kn_H) : Option kn_R := match st with
  | .long x :: r => bif Nat.ble (i + 2) nL then kn_to pc (kn_s2 l i (.long x)) r h else none
  | _ => none
def kn_sta (nL pc : Nat) (l : List (Nat × Value)) (i : Nat) (st : List Value) (h : kn_H) : Option kn_R := match st with
  | .ref x :: r => bif Nat.ble (i + 1) nL then kn_to pc (kn_s1 l i (.ref x)) r h else none
  | .null :: r => bif Nat.ble (i + 1) nL then kn_to pc (kn_s1 l i .null) r h else none
  | _ => none
def kn_inc (nL pc : Nat) (l : List (Nat × Value)) (i : Nat) (n : Int) (st : List Value) (h : kn_H) : Option kn_R := match kn_ld l i with
  | some (.int x) => bif Nat.ble (i + 1) nL then kn_to pc (kn_s1 l i (.int (x + Int32.ofInt n))) st h else none
  | _ => none
def kn_ii (f : Int32 → Int32 → Int32) (pc : Nat) (l : List (Nat × Value)) (st : List Value) (h : kn_H) : Option kn_R := match st with
  | .int y :: .int x :: r => kn_to pc l (.int (f x y) :: r) h
  | _ => none
def kn_id (f : Int32 → Int32 → Int32) (pc : Nat) (l : List (Nat × Value)) (st : List Value) (h : kn_H) : Option kn_R := match st with
  | .int y :: .int x :: r => if y = 0 then none else kn_to pc l (.int (f x y) :: r) h
  | _ => none
def kn_ll (f : Int64 → Int64 → Int64) (pc : Nat) (l : List (Nat × Value)) (st : List Value) (h : kn_H) : Option kn_R := match st with
  | .long y :: .long x :: r => kn_to pc l (.long (f x y) :: r) h
  | _ => none
def kn_ldv (f : Int64 → Int64 → Int64) (pc : Nat) (l : List (Nat × Value)) (st : List Value) (h : kn_H) : Option kn_R := match st with
  | .long y :: .long x :: r => if y = 0 then none else kn_to pc l (.long (f x y) :: r) h
  | _ => none
def kn_li (f : Int64 → Int32 → Int64) (pc : Nat) (l : List (Nat × Value)) (st : List Value) (h : kn_H) : Option kn_R := match st with
  | .int y :: .long x :: r => kn_to pc l (.long (f x y) :: r) h
  | _ => none
def kn_lc (pc : Nat) (l : List (Nat × Value)) (st : List Value) (h : kn_H) : Option kn_R := match st with
  | .long y :: .long x :: r => kn_to pc l (.int (lg_cmp x y) :: r) h
  | _ => none
def kn_1i (f : Int32 → Value) (pc : Nat) (l : List (Nat × Value)) (st : List Value) (h : kn_H) : Option kn_R := match st with
  | .int x :: r => kn_to pc l (f x :: r) h
  | _ => none
def kn_1l (f : Int64 → Value) (pc : Nat) (l : List (Nat × Value)) (st : List Value) (h : kn_H) : Option kn_R := match st with
  | .long x :: r => kn_to pc l (f x :: r) h
  | _ => none
def kn_c1 (v : Value) : Bool := Nat.beq v.category 1
def kn_dup (pc : Nat) (l : List (Nat × Value)) (st : List Value) (h : kn_H) : Option kn_R := match st with
  | a :: r => bif kn_c1 a then kn_to pc l (a :: a :: r) h else none
  | _ => none
def kn_pop (pc : Nat) (l : List (Nat × Value)) (st : List Value) (h : kn_H) : Option kn_R := match st with
  | a :: r => bif kn_c1 a then kn_to pc l r h else none
  | _ => none
def kn_dx1 (pc : Nat) (l : List (Nat × Value)) (st : List Value) (h : kn_H) : Option kn_R := match st with
  | a :: b :: r => bif kn_c1 a && kn_c1 b then kn_to pc l (a :: b :: a :: r) h else none
  | _ => none
def kn_dx2 (pc : Nat) (l : List (Nat × Value)) (st : List Value) (h : kn_H) : Option kn_R := match st with
  | a :: b :: c :: r => bif kn_c1 a && (kn_c1 b && kn_c1 c) then kn_to pc l (a :: b :: c :: a :: r) h else none
  | _ => none
def kn_d2 (pc : Nat) (l : List (Nat × Value)) (st : List Value) (h : kn_H) : Option kn_R := match st with
  | a :: b :: r => bif kn_c1 a && kn_c1 b then kn_to pc l (a :: b :: a :: b :: r) h else none
  | _ => none
/-- a branch by what two ints are to each other -/
def kn_br (c : ClassFile.Cond) (x y : Int32) (t n : Nat) (l : List (Nat × Value)) (st : List Value) (h : kn_H) : Option kn_R := match c with
  | .eq => if x = y then kn_to t l st h else kn_to n l st h
  | .ne => if x = y then kn_to n l st h else kn_to t l st h
  | .lt => if x < y then kn_to t l st h else kn_to n l st h
  | .ge => if y ≤ x then kn_to t l st h else kn_to n l st h
  | .gt => if y < x then kn_to t l st h else kn_to n l st h
  | .le => if x ≤ y then kn_to t l st h else kn_to n l st h
def kn_if (c : ClassFile.Cond) (t n : Nat) (l : List (Nat × Value)) (st : List Value) (h : kn_H) : Option kn_R := match st with
  | .int x :: r => kn_br c x 0 t n l r h
  | _ => none
def kn_cmp (c : ClassFile.Cond) (t n : Nat) (l : List (Nat × Value)) (st : List Value) (h : kn_H) : Option kn_R := match st with
  | .int y :: .int x :: r => kn_br c x y t n l r h
  | _ => none
def kn_nul (t n : Nat) (l : List (Nat × Value)) (st : List Value) (h : kn_H) : Option kn_R := match st with
  | .ref _ :: r => kn_to n l r h
  | .null :: r => kn_to t l r h
  | _ => none
def kn_tab (lo hi : Int) (aux : List Nat) (l : List (Nat × Value)) (st : List Value) (h : kn_H) : Option kn_R := match st, aux with
  | .int x :: r, d :: ts => if x.toInt < lo ∨ hi < x.toInt then kn_to d l r h else match kn_at ts (x.toInt - lo).toNat with
    | some t => kn_to t l r h
    | none => none
  | _, _ => none
/-- fields: aux = class, place, code of the type -/
def kn_get (pc : Nat) (aux : List Nat) (l : List (Nat × Value)) (st : List Value) (h : kn_H) : Option kn_R := match st, aux with
  | .ref a :: r, ci :: k :: _ => match kn_at h a with
    | some (.inr (c, fs)) => bif Nat.beq c ci then (match kn_at fs k with
      | some v => kn_to pc l (v :: r) h
      | none => none) else none
    | _ => none
  | _, _ => none
def kn_fit (tc : Nat) (v : Value) : Bool := match v with
  | .int x => match tc with
    | 0 => true
    | 2 => x == 0 || x == 1
    | _ => false
  | .long _ => Nat.beq tc 1
  | .null => Nat.beq tc 3
  | .ref _ => Nat.beq tc 3
  | _ => false
def kn_put (pc : Nat) (aux : List Nat) (l : List (Nat × Value)) (st : List Value) (h : kn_H) : Option kn_R := match st, aux with
  | v :: .ref (a + 1) :: r, ci :: k :: tc :: _ => match kn_at h (a + 1) with
    | some (.inr (c, fs)) => bif Nat.beq c ci && (Nat.ble (k + 1) fs.length && kn_fit tc v) then kn_to pc l r (h.set (a + 1) (.inr (c, fs.set k v))) else none
    | _ => none
  | _, _ => none
/-- the code of an element type -/
def kn_tc : FieldType → Nat
  | .int => 0
  | .long => 1
  | .boolean => 2
  | .object _ => 3
  | .array _ => 3
  | .byte => 4
  | .short => 5
  | .char => 6
  | _ => 9
def kn_ald (tc : Nat) (pc : Nat) (l : List (Nat × Value)) (st : List Value) (h : kn_H) : Option kn_R := match st with
  | .int i :: .ref a :: r => match kn_at h a with
    | some (.inl (ty, n, .inl f)) => bif Nat.beq (kn_tc ty) tc then (if i < 0 ∨ n ≤ i.toNatClampNeg then none else kn_to pc l (.int (f i.toNatClampNeg) :: r) h) else none
    | _ => none
  | _ => none
def kn_lald (pc : Nat) (l : List (Nat × Value)) (st : List Value) (h : kn_H) : Option kn_R := match st with
  | .int i :: .ref (a + 1) :: r => match kn_at h (a + 1) with
    | some (.inl (ty, n, .inr (.inl f))) => bif Nat.beq (kn_tc ty) 1 then (if i < 0 ∨ n ≤ i.toNatClampNeg then none else kn_to pc l (.long (f i.toNatClampNeg) :: r) h) else none
    | _ => none
  | _ => none
def kn_ast (pc : Nat) (l : List (Nat × Value)) (st : List Value) (h : kn_H) : Option kn_R := match st with
  | .int x :: .int i :: .ref (a + 1) :: r => match kn_at h (a + 1) with
    | some (.inl (ty, n, .inl f)) => bif Nat.beq (kn_tc ty) 0 then (if i < 0 ∨ n ≤ i.toNatClampNeg then none else kn_to pc l r (h.set (a + 1) (.inl (ty, n, .inl (upd f i.toNatClampNeg x))))) else none
    | _ => none
  | _ => none
def kn_bast (pc : Nat) (l : List (Nat × Value)) (st : List Value) (h : kn_H) : Option kn_R := match st with
  | .int x :: .int i :: .ref (a + 1) :: r => match kn_at h (a + 1) with
    | some (.inl (ty, n, .inl f)) => bif Nat.beq (kn_tc ty) 2 then (if i < 0 ∨ n ≤ i.toNatClampNeg then none else kn_to pc l r (h.set (a + 1) (.inl (ty, n, .inl (upd f i.toNatClampNeg (vp_nar .boolean x)))))) else none
    | _ => none
  | _ => none
def kn_last (pc : Nat) (l : List (Nat × Value)) (st : List Value) (h : kn_H) : Option kn_R := match st with
  | .long x :: .int i :: .ref (a + 1) :: r => match kn_at h (a + 1) with
    | some (.inl (ty, n, .inr (.inl f))) => bif Nat.beq (kn_tc ty) 1 then (if i < 0 ∨ n ≤ i.toNatClampNeg then none else kn_to pc l r (h.set (a + 1) (.inl (ty, n, .inr (.inl (vp_updL f i.toNatClampNeg x)))))) else none
    | _ => none
  | _ => none
def kn_len (pc : Nat) (l : List (Nat × Value)) (st : List Value) (h : kn_H) : Option kn_R := match st with
  | .ref a :: r => match kn_at h a with
    | some (.inl (ty, n, _)) => bif Nat.ble (kn_tc ty) 2 then kn_to pc l (.int (Int32.ofNat n) :: r) h else none
    | _ => none
  | _ => none
/-- the default value of a type's code -/
def kn_dv (tc : Nat) : Value := match tc with
  | 1 => .long 0
  | 3 => .null
  | _ => .int 0
def kn_new (pc : Nat) (aux : List Nat) (l : List (Nat × Value)) (st : List Value) (h : kn_H) : Option kn_R := match aux with
  | ci :: N :: tcs => some (.inl ((pc, l, .ref h.length :: st), h ++ [.inr (ci, tcs.map kn_dv)], 1, N))
  | _ => none
def kn_newa (t : ArrayType) (pc : Nat) (l : List (Nat × Value)) (st : List Value) (h : kn_H) : Option kn_R := match st with
  | .int n :: r => if n < 0 ∨ 1000000 < n.toNatClampNeg then none else match t with
    | .int => some (.inl ((pc, l, .ref h.length :: r), h ++ [.inl (.int, n.toNatClampNeg, .inl (fun _ => 0))], 1, n.toNatClampNeg))
    | .boolean => some (.inl ((pc, l, .ref h.length :: r), h ++ [.inl (.boolean, n.toNatClampNeg, .inl (fun _ => 0))], 1, n.toNatClampNeg))
    | .long => some (.inl ((pc, l, .ref h.length :: r), h ++ [.inl (.long, n.toNatClampNeg, .inr (.inl (fun _ => 0)))], 1, n.toNatClampNeg))
    | _ => none
  | _ => none
def kn_cat (st : List Value) : Nat := (st.map fun v => v.category).sum
def kn_copy (pc : Nat) (l : List (Nat × Value)) (st : List Value) (h : kn_H) : Option kn_R := match st with
  | .int n :: .int dp :: .ref (a + 1) :: .int sp :: .ref (b + 1) :: r => match kn_at h (b + 1), kn_at h (a + 1) with
    | some (.inl (t0, n0, .inl f)), some (.inl (t1, n1, .inl g)) => bif Nat.beq (kn_tc t0) 0 && (Nat.beq (kn_tc t1) 0 && Nat.ble (kn_cat r) 8) then
        (if sp < 0 ∨ dp < 0 ∨ n < 0 ∨ n0 < sp.toNatClampNeg + n.toNatClampNeg ∨ n1 < dp.toNatClampNeg + n.toNatClampNeg then none
         else kn_to pc l r (h.set (a + 1) (.inl (t1, n1, .inl (va_cpy f g sp.toNatClampNeg dp.toNatClampNeg n.toNatClampNeg))))) else none
    | some (.inl (t0, n0, .inr (.inl f))), some (.inl (t1, n1, .inr (.inl g))) => bif Nat.beq (kn_tc t0) 1 && (Nat.beq (kn_tc t1) 1 && Nat.ble (kn_cat r) 8) then
        (if sp < 0 ∨ dp < 0 ∨ n < 0 ∨ n0 < sp.toNatClampNeg + n.toNatClampNeg ∨ n1 < dp.toNatClampNeg + n.toNatClampNeg then none
         else kn_to pc l r (h.set (a + 1) (.inl (t1, n1, .inr (.inl (va_cpy f g sp.toNatClampNeg dp.toNatClampNeg n.toNatClampNeg)))))) else none
    | _, _ => none
  | _ => none
/-- a call: aux = which method, how many arguments (its receiver not counted), its class, its locals -/
def kn_cv (pc : Nat) (aux : List Nat) (l : List (Nat × Value)) (st : List Value) (h : kn_H) : Option kn_R := match aux with
  | j :: n :: ci :: nL :: _ => match st.drop n with
    | .ref a :: r => match kn_at h a with
      | some (.inr (c, _)) => bif Nat.beq c ci && (Nat.beq (st.take n).length n && (Nat.ble (kn_cat r) 8 && Nat.ble (lg_sl (.ref a :: (st.take n).reverse)).length nL)) then some (.inr (.inl (j, .ref a :: (st.take n).reverse, (pc, l, r)))) else none
      | _ => none
    | _ => none
  | _ => none
def kn_cs (pc : Nat) (aux : List Nat) (l : List (Nat × Value)) (st : List Value) : Option kn_R := match aux with
  | j :: n :: _ :: nL :: _ => bif Nat.beq (st.take n).length n && (Nat.ble (kn_cat (st.drop n)) 8 && Nat.ble (lg_sl (st.take n).reverse).length nL) then some (.inr (.inl (j, (st.take n).reverse, (pc, l, st.drop n)))) else none
  | _ => none
/-- invokespecial: aux = [] is Object.<init> -/
def kn_ci (pc : Nat) (aux : List Nat) (l : List (Nat × Value)) (st : List Value) (h : kn_H) : Option kn_R := match aux with
  | [] => match st with
    | .ref _ :: r => bif Nat.ble (kn_cat r) 8 then kn_to pc l r h else none
    | _ => none
  | _ => kn_cv pc aux l st h
def kn_mx (pc : Nat) (l : List (Nat × Value)) (st : List Value) (h : kn_H) : Option kn_R := match st with
  | .int y :: .int x :: r => bif Nat.ble (kn_cat r) 8 then kn_to pc l (.int (if x < y then y else x) :: r) h else none
  | _ => none
/-- invokestatic: aux = [] is System.arraycopy, one number Math.max -/
def kn_cst (pc : Nat) (aux : List Nat) (l : List (Nat × Value)) (st : List Value) (h : kn_H) : Option kn_R := match aux with
  | [] => kn_copy pc l st h
  | [_] => kn_mx pc l st h
  | _ => kn_cs pc aux l st
def kn_ri (ret : Option FieldType) (st : List Value) : Option kn_R := match ret, st with
  | some .int, [.int v] => some (.inr (.inr (some (.int v))))
  | some .boolean, [.int v] => bif v == 0 || v == 1 then some (.inr (.inr (some (.int v)))) else none
  | _, _ => none
def kn_rl (ret : Option FieldType) (st : List Value) : Option kn_R := match ret, st with
  | some .long, [.long v] => some (.inr (.inr (some (.long v))))
  | _, _ => none
def kn_rv (ret : Option FieldType) (st : List Value) : Option kn_R := match ret, st with
  | none, [] => some (.inr (.inr none))
  | _, _ => none
def kn_hd (aux : List Nat) : Nat := match aux with
  | t :: _ => t
  | [] => 0
def kn_step (nL : Nat) (ret : Option FieldType) (i : kn_I) (pc : Nat) (l : List (Nat × Value)) (st : List Value) (h : kn_H) : Option kn_R := match i.1 with
  | .iconst n => kn_to (pc + 1) l (.int (Int32.ofInt n) :: st) h
  | .bipush n => kn_to (pc + 2) l (.int (Int8.ofInt n).toInt32 :: st) h
  | .sipush n => kn_to (pc + 3) l (.int (Int16.ofInt n).toInt32 :: st) h
  | .lconst n => kn_to (pc + 1) l (.long (Int64.ofNat (n : Nat)) :: st) h
  | .ldc _ => kn_to (pc + 2) l (.int (Int32.ofNat (kn_hd i.2.2.1)) :: st) h
  | .ldc_w _ => kn_to (pc + 3) l (.int (Int32.ofNat (kn_hd i.2.2.1)) :: st) h
  | .ldc2_w _ => kn_to (pc + 3) l (.long (Int64.ofNat (kn_hd i.2.2.1)) :: st) h
  | .aconst_null => kn_to (pc + 1) l (.null :: st) h
  | .iload_n k => kn_ldi (pc + 1) l k st h
  | .iload k => kn_ldi (pc + 2) l k st h
  | .lload_n k => kn_ldl (pc + 1) l k st h
  | .lload k => kn_ldl (pc + 2) l k st h
  | .aload_n k => kn_lda (pc + 1) l k st h
  | .aload k => kn_lda (pc + 2) l k st h
  | .istore_n k => kn_sti nL (pc + 1) l k st h
  | .istore k => kn_sti nL (pc + 2) l k st h
  | .lstore_n k => kn_stl nL (pc + 1) l k st h
  | .lstore k => kn_stl nL (pc + 2) l k st h
  | .astore_n k => kn_sta nL (pc + 1) l k st h
  | .astore k => kn_sta nL (pc + 2) l k st h
  | .iinc k n => kn_inc nL (pc + 3) l k n st h
  | .iadd => kn_ii (fun x y => x + y) (pc + 1) l st h
  | .isub => kn_ii (fun x y => x - y) (pc + 1) l st h
  | .imul => kn_ii (fun x y => x * y) (pc + 1) l st h
  | .iand => kn_ii (fun x y => x &&& y) (pc + 1) l st h
  | .ior => kn_ii (fun x y => x ||| y) (pc + 1) l st h
  | .ixor => kn_ii (fun x y => x ^^^ y) (pc + 1) l st h
  | .ishl => kn_ii (fun x y => x <<< (y &&& 31)) (pc + 1) l st h
  | .ishr => kn_ii (fun x y => x >>> (y &&& 31)) (pc + 1) l st h
  | .iushr => kn_ii (fun x y => (x.toUInt32 >>> (y.toUInt32 &&& Int32.toUInt32 31)).toInt32) (pc + 1) l st h
  | .idiv => kn_id (fun x y => x / y) (pc + 1) l st h
  | .irem => kn_id (fun x y => x - x / y * y) (pc + 1) l st h
  | .ineg => kn_1i (fun x => .int (-x)) (pc + 1) l st h
  | .i2l => kn_1i (fun x => .long x.toInt64) (pc + 1) l st h
  | .i2b => kn_1i (fun x => .int x.toInt8.toInt32) (pc + 1) l st h
  | .i2s => kn_1i (fun x => .int x.toInt16.toInt32) (pc + 1) l st h
  | .i2c => kn_1i (fun x => .int (x.toUInt32 % 65536).toInt32) (pc + 1) l st h
  | .l2i => kn_1l (fun x => .int x.toInt32) (pc + 1) l st h
  | .lneg => kn_1l (fun x => .long (-x)) (pc + 1) l st h
  | .ladd => kn_ll (fun x y => x + y) (pc + 1) l st h
  | .lsub => kn_ll (fun x y => x - y) (pc + 1) l st h
  | .lmul => kn_ll (fun x y => x * y) (pc + 1) l st h
  | .land => kn_ll (fun x y => x &&& y) (pc + 1) l st h
  | .lor => kn_ll (fun x y => x ||| y) (pc + 1) l st h
  | .lxor => kn_ll (fun x y => x ^^^ y) (pc + 1) l st h
  | .ldiv => kn_ldv (fun x y => x / y) (pc + 1) l st h
  | .lrem => kn_ldv (fun x y => x - x / y * y) (pc + 1) l st h
  | .lshl => kn_li (fun x y => x <<< (y.toInt64 &&& 63)) (pc + 1) l st h
  | .lshr => kn_li (fun x y => x >>> (y.toInt64 &&& 63)) (pc + 1) l st h
  | .lushr => kn_li (fun x y => (x.toUInt64 >>> (y.toInt64.toUInt64 &&& Int64.toUInt64 63)).toInt64) (pc + 1) l st h
  | .lcmp => kn_lc (pc + 1) l st h
  | .dup => kn_dup (pc + 1) l st h
  | .pop => kn_pop (pc + 1) l st h
  | .dup_x1 => kn_dx1 (pc + 1) l st h
  | .dup_x2 => kn_dx2 (pc + 1) l st h
  | .dup2 => kn_d2 (pc + 1) l st h
  | .ifCond c _ => kn_if c (kn_hd i.2.2.1) (pc + 3) l st h
  | .if_icmp c _ => kn_cmp c (kn_hd i.2.2.1) (pc + 3) l st h
  | .ifnull _ => kn_nul (kn_hd i.2.2.1) (pc + 3) l st h
  | .ifnonnull _ => kn_nul (pc + 3) (kn_hd i.2.2.1) l st h
  | .goto _ => kn_to (kn_hd i.2.2.1) l st h
  | .tableswitch _ lo hi _ => kn_tab lo hi i.2.2.1 l st h
  | .getfield _ => kn_get (pc + 3) i.2.2.1 l st h
  | .putfield _ => kn_put (pc + 3) i.2.2.1 l st h
  | .iaload => kn_ald 0 (pc + 1) l st h
  | .baload => kn_ald 2 (pc + 1) l st h
  | .laload => kn_lald (pc + 1) l st h
  | .iastore => kn_ast (pc + 1) l st h
  | .bastore => kn_bast (pc + 1) l st h
  | .lastore => kn_last (pc + 1) l st h
  | .arraylength => kn_len (pc + 1) l st h
  | .new _ => kn_new (pc + 3) i.2.2.1 l st h
  | .newarray t => kn_newa t (pc + 2) l st h
  | .invokevirtual _ => kn_cv (pc + 3) i.2.2.1 l st h
  | .invokespecial _ => kn_ci (pc + 3) i.2.2.1 l st h
  | .invokestatic _ => kn_cst (pc + 3) i.2.2.1 l st h
  | .ireturn => kn_ri ret st
  | .lreturn => kn_rl ret st
  | .return_ => kn_rv ret st
  | _ => none
/-- the run: n steps at most; what it returns, the cells then, how many cells and slots it made -/
def kn_run (T : List kn_M) : Nat → kn_M → kn_F → kn_H → Option (Option Value × kn_H × Nat × Nat)
  | 0, _, _, _ => none
  | n + 1, M, f, h => match kn_code M f.1 with
    | none => none
    | some i => match kn_step M.2.2.1 M.2.2.2.1 i f.1 f.2.1 f.2.2 h with
      | none => none
      | some (.inl (f1, h1, k, z)) => (kn_run T n M f1 h1).map (fun r => (r.1, r.2.1, k + r.2.2.1, z + r.2.2.2))
      | some (.inr (.inr v)) => some (v, h, 0, 0)
      | some (.inr (.inl (j, as, f1))) => match kn_at T j with
        | none => none
        | some M1 => match kn_run T n M1 (0, lv_args 0 as, []) h with
          | none => none
          | some (v, h1, k, z) => (kn_run T n M (f1.1, f1.2.1, v.toList ++ f1.2.2) h1).map (fun r => (r.1, r.2.1, k + r.2.2.1, z + r.2.2.2))
end
section
/-! THE SMALL MACHINE, REASONED ABOUT: what a run from a frame comes to (nothing is made on the way) -/
theorem kn_run_more (T : List kn_M) : ∀ (n : Nat) (M : kn_M) (f : kn_F) (h : kn_H) (r : Option Value × kn_H × Nat × Nat), kn_run T n M f h = some r → ∀ m, n ≤ m → kn_run T m M f h = some r := by
  intro n
  induction n with
  | zero => intro M f h r hr; cases hr
  | succ n ih =>
    intro M f h r hr m hm
    cases m with
    | zero => omega
    | succ m =>
      have hm' : n ≤ m := by omega
      rw [kn_run] at hr ⊢
      cases hc : kn_code M f.1 with
      | none => rw [hc] at hr; cases hr
      | some i =>
        rw [hc] at hr
        dsimp only at hr ⊢
        cases hs : kn_step M.2.2.1 M.2.2.2.1 i f.1 f.2.1 f.2.2 h with
        | none => rw [hs] at hr; cases hr
        | some q =>
          rw [hs] at hr
          rcases q with ⟨f1, h1, k, z⟩ | ⟨j, as, f1⟩ | v
          · dsimp only at hr ⊢
            cases h2 : kn_run T n M f1 h1 with
            | none => rw [h2] at hr; cases hr
            | some r1 => rw [h2] at hr; rw [ih M f1 h1 r1 h2 m hm']; exact hr
          · dsimp only at hr ⊢
            cases hj : kn_at T j with
            | none => rw [hj] at hr; cases hr
            | some M1 =>
              rw [hj] at hr
              dsimp only at hr ⊢
              cases h2 : kn_run T n M1 (0, lv_args 0 as, []) h with
              | none => rw [h2] at hr; cases hr
              | some r1 =>
                rw [h2] at hr
                rw [ih M1 _ h r1 h2 m hm']
                obtain ⟨v, h1, k, z⟩ := r1
                dsimp only at hr ⊢
                cases h3 : kn_run T n M (f1.1, f1.2.1, v.toList ++ f1.2.2) h1 with
                | none => rw [h3] at hr; cases hr
                | some r2 => rw [h3] at hr; rw [ih M _ h1 r2 h3 m hm']; exact hr
          · exact hr
/-- from frame f and cells h on, the method ends, and Q holds of its answer and the cells then; no cell is made -/
def kn_Post (T : List kn_M) (M : kn_M) (f : kn_F) (h : kn_H) (Q : Option Value → kn_H → Prop) : Prop := ∃ n v h1, kn_run T n M f h = some (v, h1, 0, 0) ∧ Q v h1
/-- n steps within the method -/
def kn_goes (M : kn_M) : Nat → kn_F → kn_H → Option (kn_F × kn_H)
  | 0, f, h => some (f, h)
  | n + 1, f, h => match kn_code M f.1 with
    | none => none
    | some i => match kn_step M.2.2.1 M.2.2.2.1 i f.1 f.2.1 f.2.2 h with
      | some (.inl (f1, h1, 0, 0)) => kn_goes M n f1 h1
      | _ => none
section KPO
variable {T : List kn_M} {M : kn_M} {h : kn_H} {Q : Option Value → kn_H → Prop} {pc : Nat} {l : List (Nat × Value)} {st : List Value}
theorem kn_P_go {f f1 : kn_F} {h1 : kn_H} {i : kn_I} (hc : kn_code M f.1 = some i) (hs : kn_step M.2.2.1 M.2.2.2.1 i f.1 f.2.1 f.2.2 h = some (.inl (f1, h1, 0, 0))) (k : kn_Post T M f1 h1 Q) : kn_Post T M f h Q := by
  obtain ⟨n, v, h2, hr, hq⟩ := k
  refine ⟨n + 1, v, h2, ?_, hq⟩
  rw [kn_run, hc]
  dsimp only
  rw [hs]
  dsimp only
  rw [hr]
  rfl
theorem kn_P_steps (n : Nat) : ∀ {f f1 : kn_F} {h h1 : kn_H}, kn_goes M n f h = some (f1, h1) → kn_Post T M f1 h1 Q → kn_Post T M f h Q := by
  induction n with
  | zero =>
    intro f f1 h h1 hg k
    cases hg
    exact k
  | succ n ih =>
    intro f f1 h h1 hg k
    rw [kn_goes] at hg
    cases hc : kn_code M f.1 with
    | none => rw [hc] at hg; cases hg
    | some i =>
      rw [hc] at hg
      dsimp only at hg
      split at hg
      · rename_i f2 h2 hs
        exact kn_P_go hc hs (ih hg k)
      · cases hg
theorem kn_P_call {f f1 : kn_F} {i : kn_I} {j : Nat} {as : List Value} {M1 : kn_M} {Q1 : Option Value → kn_H → Prop} (hc : kn_code M f.1 = some i) (hs : kn_step M.2.2.1 M.2.2.2.1 i f.1 f.2.1 f.2.2 h = some (.inr (.inl (j, as, f1)))) (hj : kn_at T j = some M1) (hP : kn_Post T M1 (0, lv_args 0 as, []) h Q1)
    (k : ∀ v h1, Q1 v h1 → kn_Post T M (f1.1, f1.2.1, v.toList ++ f1.2.2) h1 Q) : kn_Post T M f h Q := by
  obtain ⟨n1, v1, h1, hr1, hq1⟩ := hP
  obtain ⟨n2, v2, h2, hr2, hq2⟩ := k v1 h1 hq1
  refine ⟨n1 + n2 + 1, v2, h2, ?_, hq2⟩
  rw [kn_run, hc]
  dsimp only
  rw [hs]
  dsimp only
  rw [hj]
  dsimp only
  rw [kn_run_more T n1 M1 _ h _ hr1 (n1 + n2) (by omega)]
  dsimp only
  rw [kn_run_more T n2 M _ h1 _ hr2 (n1 + n2) (by omega)]
  rfl
theorem kn_P_ret {f : kn_F} {i : kn_I} {v : Option Value} (hc : kn_code M f.1 = some i) (hs : kn_step M.2.2.1 M.2.2.2.1 i f.1 f.2.1 f.2.2 h = some (.inr (.inr v))) (hq : Q v h) : kn_Post T M f h Q := by
  refine ⟨1, v, h, ?_, hq⟩
  rw [kn_run, hc]
  dsimp only
  rw [hs]
/-- a branch -/
theorem kn_P_if {f : kn_F} {i : kn_I} {c : Prop} {dc : Decidable c} {t n : Nat} {l1 : List (Nat × Value)} {s1 : List Value} (hc : kn_code M f.1 = some i) (hs : kn_step M.2.2.1 M.2.2.2.1 i f.1 f.2.1 f.2.2 h = @ite _ c dc (kn_to t l1 s1 h) (kn_to n l1 s1 h)) (kt : c → kn_Post T M (t, l1, s1) h Q) (kf : ¬ c → kn_Post T M (n, l1, s1) h Q) : kn_Post T M f h Q := by
  by_cases hcc : c
  · refine kn_P_go hc (f1 := (t, l1, s1)) (h1 := h) ?_ (kt hcc)
    rw [hs, if_pos hcc]
    rfl
  · refine kn_P_go hc (f1 := (n, l1, s1)) (h1 := h) ?_ (kf hcc)
    rw [hs, if_neg hcc]
    rfl
/-- an index, a divisor -/
theorem kn_P_ok {f : kn_F} {i : kn_I} {c : Prop} {dc : Decidable c} {t : Nat} {l1 : List (Nat × Value)} {s1 : List Value} {h1 : kn_H} (hc : kn_code M f.1 = some i) (hs : kn_step M.2.2.1 M.2.2.2.1 i f.1 f.2.1 f.2.2 h = @ite _ c dc none (kn_to t l1 s1 h1)) (hn : ¬ c) (k : kn_Post T M (t, l1, s1) h1 Q) : kn_Post T M f h Q := by
  refine kn_P_go hc (f1 := (t, l1, s1)) (h1 := h1) ?_ k
  rw [hs, if_neg hn]
  rfl
theorem kn_P_mono {f : kn_F} {Q1 : Option Value → kn_H → Prop} (hP : kn_Post T M f h Q1) (hq : ∀ v h1, Q1 v h1 → Q v h1) : kn_Post T M f h Q := by
  obtain ⟨n, v, h1, hr, h2⟩ := hP
  exact ⟨n, v, h1, hr, hq v h1 h2⟩
end KPO
end
section
/-! The machine's steps are the JVM's: what its values and cells are there -/
def kn_ad (b base : Nat) : Nat → Nat
  | 0 => b
  | i + 1 => base + i
def kn_v (b base : Nat) : Value → Value
  | .ref a => .ref (kn_ad b base a)
  | v => v
theorem kn_v_cat (b base : Nat) (v : Value) : (kn_v b base v).category = v.category := by cases v <;> rfl
def kn_vs (b base : Nat) (l : List (Nat × Value)) : List (Nat × Value) := l.map (fun q => (q.1, kn_v b base q.2))
def kn_e (cA : FieldType → ClassId) (b base : Nat) : kn_C → va_E
  | .inl (ty, x) => .inl (cA ty, x)
  | .inr (ci, fs) => .inr (ci, fs.map (kn_v b base))
def kn_w (E : kn_C → va_E) : Nat → kn_H → va_W
  | _, [] => []
  | a, x :: r => (a, E x) :: kn_w E (a + 1) r
theorem kn_at_eq {α : Type} : ∀ (l : List α) (i : Nat), kn_at l i = l[i]?
  | [], i => by simp [kn_at]
  | x :: r, 0 => by simp [kn_at]
  | x :: r, i + 1 => by rw [kn_at, kn_at_eq r i]; simp
theorem kn_w_at (E : kn_C → va_E) : ∀ (r : kn_H) (a i : Nat), (kn_w E a r)[i]? = (kn_at r i).map (fun x => (a + i, E x))
  | [], a, i => by simp [kn_w, kn_at]
  | x :: r, a, 0 => by simp [kn_w, kn_at]
  | x :: r, a, i + 1 => by
    rw [kn_w, List.getElem?_cons_succ, kn_w_at E r (a + 1) i, kn_at]
    simp [Nat.add_assoc, Nat.add_comm 1 i]
theorem kn_w_len (E : kn_C → va_E) : ∀ (r : kn_H) (a : Nat), (kn_w E a r).length = r.length
  | [], _ => rfl
  | _ :: r, a => by rw [kn_w, List.length_cons, kn_w_len E r (a + 1), List.length_cons]
theorem kn_w_set (E : kn_C → va_E) (x : kn_C) : ∀ (r : kn_H) (a i : Nat), kn_w E a (r.set i x) = (kn_w E a r).set i (a + i, E x)
  | [], _, _ => rfl
  | _ :: r, a, 0 => by simp [kn_w]
  | y :: r, a, i + 1 => by
    rw [List.set_cons_succ, kn_w, kn_w, List.set_cons_succ, kn_w_set E x r (a + 1) i, Nat.add_assoc, Nat.add_comm 1 i]
theorem kn_w_app (E : kn_C → va_E) (x : kn_C) : ∀ (r : kn_H) (a : Nat), kn_w E a (r ++ [x]) = kn_w E a r ++ [(a + r.length, E x)]
  | [], _ => rfl
  | y :: r, a => by
    rw [List.cons_append, kn_w, kn_w_app E x r (a + 1), kn_w, List.cons_append, List.length_cons, Nat.add_assoc, Nat.add_comm 1 r.length]
theorem kn_w_D (E : kn_C → va_E) (r : kn_H) (a : Nat) : va_D (fun q => a ≤ q) (kn_w E a r) := by
  refine ⟨fun i j x y hi hj hxy => ?_, fun k q hk => ?_⟩
  · rw [kn_w_at] at hi hj
    cases h1 : kn_at r i with
    | none => rw [h1] at hi; cases hi
    | some u =>
      cases h2 : kn_at r j with
      | none => rw [h2] at hj; cases hj
      | some w =>
        rw [h1] at hi; rw [h2] at hj
        cases hi; cases hj
        simp only at hxy
        omega
  · rw [kn_w_at] at hk
    cases h1 : kn_at r k with
    | none => rw [h1] at hk; cases hk
    | some u =>
      rw [h1] at hk
      cases hk
      exact Nat.le_add_right _ _
theorem kn_w_get {E : kn_C → va_E} {r : kn_H} {a i : Nat} {x : kn_C} (h : kn_at r i = some x) : (kn_w E a r)[i]? = some (a + i, E x) := by rw [kn_w_at, h]; rfl
theorem kn_ld_mem : ∀ {l : List (Nat × Value)} {i : Nat} {v : Value}, kn_ld l i = some v → (i, v) ∈ l
  | [], _, _, h => by cases h
  | q :: r, i, v, h => by
    rw [kn_ld] at h
    cases hb : Nat.beq q.1 i with
    | true =>
      rw [hb] at h
      have h1 : q.2 = v := Option.some.inj h
      have h2 : q.1 = i := Nat.eq_of_beq_eq_true hb
      rw [← h1, ← h2]
      exact List.mem_cons_self
    | false =>
      rw [hb] at h
      exact List.mem_cons_of_mem _ (kn_ld_mem h)
theorem kn_ld_at {ls : Array Slot} {nL b base i : Nat} {l : List (Nat × Value)} {v : Value} (hl : lv_has ls nL (kn_vs b base l)) (h : kn_ld l i = some v) : ls[i]? = some (.val (kn_v b base v)) := by
  have hm : (i, kn_v b base v) ∈ kn_vs b base l := List.mem_map.mpr ⟨(i, v), kn_ld_mem h, rfl⟩
  exact hl.2.2 _ hm
theorem kn_vs_s1 (b base : Nat) (l : List (Nat × Value)) (i : Nat) (v : Value) : kn_vs b base (kn_s1 l i v) = (i, kn_v b base v) :: (kn_vs b base l).filter (fun q => !(q.1 == i) && !(q.1 + 1 == i && q.2.category == 2)) := by
  simp only [kn_vs, kn_s1, List.map_cons, List.filter_map]
  congr 2
  apply List.filter_congr
  intro q _
  simp [kn_v_cat]
theorem kn_vs_s2 (b base : Nat) (l : List (Nat × Value)) (i : Nat) (v : Value) : kn_vs b base (kn_s2 l i v) = (i, kn_v b base v) :: (kn_vs b base l).filter (fun q => !(q.1 == i) && (!(q.1 == i + 1) && !(q.1 + 1 == i && q.2.category == 2))) := by
  simp only [kn_vs, kn_s2, List.map_cons, List.filter_map]
  congr 2
  apply List.filter_congr
  intro q _
  simp [kn_v_cat]
theorem kn_vs_args (b base : Nat) : ∀ (vs : List Value) (i : Nat), kn_vs b base (lv_args i vs) = lv_args i (vs.map (kn_v b base))
  | [], _ => rfl
  | v :: vs, i => by
    rw [List.map_cons, lv_args, lv_args, kn_v_cat, ← kn_vs_args b base vs]
    rfl
theorem kn_sl_len (b base : Nat) : ∀ (vs : List Value), (lg_sl (vs.map (kn_v b base))).length = (lg_sl vs).length
  | [] => rfl
  | v :: vs => by
    have ih := kn_sl_len b base vs
    simp only [lg_sl, List.map_cons, List.flatMap_cons, List.length_append, kn_v_cat] at ih ⊢
    rw [ih]
    congr 1
    split <;> rfl
theorem kn_cat_map (b base : Nat) (st : List Value) : ((st.map (kn_v b base)).map fun v => v.category).sum = kn_cat st := by
  rw [List.map_map, kn_cat]
  congr 1
  apply List.map_congr_left
  intro v _
  exact kn_v_cat b base v
def kn_tys (cA : FieldType → ClassId) : List (ClassId × FieldType) := [(cA .int, .int), (cA .long, .long), (cA .boolean, .boolean)]
/-- what holds of the machine while a method runs -/
def kn_Ctx (cl : List vw_C) (Tg Ns : List Cond) (b base L : Nat) (xs : Nat → Int32) (cA : FieldType → ClassId) (D : va_G) (M : kn_M) (p : Program) (R : Room) (s : State) (m : MethodId) (args : Array Value) (meth : Method) (c : Code) : Prop :=
  p.tables.exec = Jvm.exec ∧ c.code = M.2.1 ∧ meth.sig.returnType = M.2.2.2.1 ∧ c.maxLocals = M.2.2.1 ∧ s.vm.findClass M.1.cls = some m.cls ∧ (∀ w ∈ Tg, w.before args s = true) ∧ (∀ w ∈ Ns, va_Nw w s) ∧ meth.locks = false ∧ (M.1.name = "<init>" → meth.name = "<init>") ∧
  va_K D cl (kn_tys cA) s ∧ va_X b L xs s s.heap ∧ b < base ∧ base ≤ s.heap.size ∧ M.2.2.2.2.1.1 ≤ R.frames ∧ M.2.2.2.2.1.2 ≤ R.locals
/-- the heap H holds the cells h, k of which were made since the method's entry -/
def kn_Rel (cl : List vw_C) (b base L : Nat) (xs : Nat → Int32) (cA : FieldType → ClassId) (D : va_G) (s : State) (H : Heap) (locs : List Loc) (k : Nat) (h : kn_H) : Prop :=
  ∃ r : kn_H, h = .inl (.int, L, .inl xs) :: r ∧ s.heap.size + k = base + r.length ∧ va_P D cl (kn_w (kn_e cA b base) base r) H ∧ va_S (fun q => base ≤ q) s.heap H locs
/-- from a frame of the machine on -/
def kn_Nx (cl : List vw_C) (b base L : Nat) (xs : Nat → Int32) (cA : FieldType → ClassId) (D : va_G) (nL : Nat) (p : Program) (l : Launch) (e : Env) (R : Room) (s : State) (m : MethodId) (args : Array Value) (below : List Frame) (meth : Method) (c : Code) (Q : State → Prop) (f : kn_F) (h : kn_H) (k z : Nat) : Prop :=
  ∀ (H : Heap) (locs : List Loc) (ls : Array Slot), kn_Rel cl b base L xs cA D s H locs k h → lv_has ls nL (kn_vs b base f.2.1) → W p l e R s m args below meth c H locs k z Q (F0 m f.1 ls (f.2.2.map (kn_v b base)))
theorem kn_bound {p : Program} {l : Launch} {e : Env} {R : Room} {s : State} {m : MethodId} {args : Array Value} {below : List Frame} {meth : Method} {c : Code} {Q : State → Prop} {H : Heap} {locs : List Loc} {k z : Nat} {g : JFrame} (kk : H.size ≤ s.heap.size + k → W p l e R s m args below meth c H locs k z Q g) : W p l e R s m args below meth c H locs k z Q g :=
  fun T hT X => kk (by rw [← hT]; exact X.heapSize) T hT X
theorem kn_to_inv {pc : Nat} {l : List (Nat × Value)} {st : List Value} {h : kn_H} {q : kn_R} (hs : kn_to pc l st h = some q) : q = .inl ((pc, l, st), h, 0, 0) := (Option.some.inj hs).symm
end
section
section KNS1
variable {p : Program} {l : Launch} {e : Env} {R : Room} {s : State} {m : MethodId} {args : Array Value} {below : List Frame} {meth : Method} {c : Code} {Q : State → Prop} {k0 z0 : Nat}
variable {cl : List vw_C} {Tg Ns : List Cond} {b base L : Nat} {xs : Nat → Int32} {cA : FieldType → ClassId} {D : va_G} {M : kn_M} {pc pc1 nL : Nat} {lo : List (Nat × Value)} {st : List Value} {h : kn_H}
variable {f1 : kn_F} {h1 : kn_H} {k z : Nat}
theorem kn_W_to {st1 : List Value} (row : ∀ {H : Heap} {locs : List Loc} {ls : Array Slot}, W p l e R s m args below meth c H locs k0 z0 Q (F0 m pc1 ls (st1.map (kn_v b base))) → W p l e R s m args below meth c H locs k0 z0 Q (F0 m pc ls (st.map (kn_v b base))))
    (hs : kn_to pc1 lo st1 h = some (.inl (f1, h1, k, z))) (hk : kn_Nx cl b base L xs cA D nL p l e R s m args below meth c Q f1 h1 (k0 + k) (z0 + z)) : kn_Nx cl b base L xs cA D nL p l e R s m args below meth c Q (pc, lo, st) h k0 z0 := by
  cases hs
  intro H locs ls hR hl
  exact row (hk H locs ls hR hl)
theorem kn_W_ldi {i : Nat} (row : ∀ {H : Heap} {locs : List Loc} {ls : Array Slot} {x : Int32} {rest : List Value}, ls[i]? = some (.val (.int x)) → W p l e R s m args below meth c H locs k0 z0 Q (F0 m pc1 ls (.int x :: rest)) → W p l e R s m args below meth c H locs k0 z0 Q (F0 m pc ls rest))
    (hs : kn_ldi pc1 lo i st h = some (.inl (f1, h1, k, z))) (hk : kn_Nx cl b base L xs cA D nL p l e R s m args below meth c Q f1 h1 (k0 + k) (z0 + z)) : kn_Nx cl b base L xs cA D nL p l e R s m args below meth c Q (pc, lo, st) h k0 z0 := by
  unfold kn_ldi at hs
  split at hs
  · rename_i x hx
    cases hs
    intro H locs ls hR hl
    exact row (kn_ld_at hl hx) (hk H locs ls hR hl)
  · cases hs
theorem kn_W_ldl {i : Nat} (row : ∀ {H : Heap} {locs : List Loc} {ls : Array Slot} {x : Int64} {rest : List Value}, ls[i]? = some (.val (.long x)) → W p l e R s m args below meth c H locs k0 z0 Q (F0 m pc1 ls (.long x :: rest)) → W p l e R s m args below meth c H locs k0 z0 Q (F0 m pc ls rest))
    (hs : kn_ldl pc1 lo i st h = some (.inl (f1, h1, k, z))) (hk : kn_Nx cl b base L xs cA D nL p l e R s m args below meth c Q f1 h1 (k0 + k) (z0 + z)) : kn_Nx cl b base L xs cA D nL p l e R s m args below meth c Q (pc, lo, st) h k0 z0 := by
  unfold kn_ldl at hs
  split at hs
  · rename_i x hx
    cases hs
    intro H locs ls hR hl
    exact row (kn_ld_at hl hx) (hk H locs ls hR hl)
  · cases hs
theorem kn_W_lda {i : Nat} (row : ∀ {H : Heap} {locs : List Loc} {ls : Array Slot} {x : Nat} {rest : List Value}, ls[i]? = some (.val (.ref x)) → W p l e R s m args below meth c H locs k0 z0 Q (F0 m pc1 ls (.ref x :: rest)) → W p l e R s m args below meth c H locs k0 z0 Q (F0 m pc ls rest))
    (rowN : ∀ {H : Heap} {locs : List Loc} {ls : Array Slot} {rest : List Value}, ls[i]? = some (.val .null) → W p l e R s m args below meth c H locs k0 z0 Q (F0 m pc1 ls (.null :: rest)) → W p l e R s m args below meth c H locs k0 z0 Q (F0 m pc ls rest))
    (hs : kn_lda pc1 lo i st h = some (.inl (f1, h1, k, z))) (hk : kn_Nx cl b base L xs cA D nL p l e R s m args below meth c Q f1 h1 (k0 + k) (z0 + z)) : kn_Nx cl b base L xs cA D nL p l e R s m args below meth c Q (pc, lo, st) h k0 z0 := by
  unfold kn_lda at hs
  split at hs
  · rename_i x hx
    cases hs
    intro H locs ls hR hl
    exact row (kn_ld_at hl hx) (hk H locs ls hR hl)
  · rename_i hx
    cases hs
    intro H locs ls hR hl
    exact rowN (kn_ld_at hl hx) (hk H locs ls hR hl)
  · cases hs
theorem kn_W_sti {i : Nat} (row : ∀ {H : Heap} {locs : List Loc} {ls : Array Slot} {x : Int32} {rest : List Value} {lv : List (Nat × Value)}, lv_has ls nL lv → i < nL → (∀ ls', lv_has ls' nL ((i, Value.int x) :: lv.filter (fun q => !(q.1 == i) && !(q.1 + 1 == i && q.2.category == 2))) → W p l e R s m args below meth c H locs k0 z0 Q (F0 m pc1 ls' rest)) → W p l e R s m args below meth c H locs k0 z0 Q (F0 m pc ls (.int x :: rest)))
    (hs : kn_sti nL pc1 lo i st h = some (.inl (f1, h1, k, z))) (hk : kn_Nx cl b base L xs cA D nL p l e R s m args below meth c Q f1 h1 (k0 + k) (z0 + z)) : kn_Nx cl b base L xs cA D nL p l e R s m args below meth c Q (pc, lo, st) h k0 z0 := by
  unfold kn_sti at hs
  split at hs
  · rename_i x r
    cases hc : Nat.ble (i + 1) nL with
    | false => rw [hc] at hs; cases hs
    | true =>
      rw [hc] at hs
      cases hs
      intro H locs ls hR hl
      exact row hl (Nat.le_of_ble_eq_true hc) (fun ls' hl' => hk H locs ls' hR (by rw [kn_vs_s1]; exact hl'))
  · cases hs
theorem kn_W_stl {i : Nat} (row : ∀ {H : Heap} {locs : List Loc} {ls : Array Slot} {x : Int64} {rest : List Value} {lv : List (Nat × Value)}, lv_has ls nL lv → i + 1 < nL → (∀ ls', lv_has ls' nL ((i, Value.long x) :: lv.filter (fun q => !(q.1 == i) && (!(q.1 == i + 1) && !(q.1 + 1 == i && q.2.category == 2)))) → W p l e R s m args below meth c H locs k0 z0 Q (F0 m pc1 ls' rest)) → W p l e R s m args below meth c H locs k0 z0 Q (F0 m pc ls (.long x :: rest)))
    (hs : kn_stl nL pc1 lo i st h = some (.inl (f1, h1, k, z))) (hk : kn_Nx cl b base L xs cA D nL p l e R s m args below meth c Q f1 h1 (k0 + k) (z0 + z)) : kn_Nx cl b base L xs cA D nL p l e R s m args below meth c Q (pc, lo, st) h k0 z0 := by
  unfold kn_stl at hs
  split at hs
  · rename_i x r
    cases hc : Nat.ble (i + 2) nL with
    | false => rw [hc] at hs; cases hs
    | true =>
      rw [hc] at hs
      cases hs
      intro H locs ls hR hl
      exact row hl (Nat.le_of_ble_eq_true hc) (fun ls' hl' => hk H locs ls' hR (by rw [kn_vs_s2]; exact hl'))
  · cases hs
theorem kn_W_sta {i : Nat} (row : ∀ {H : Heap} {locs : List Loc} {ls : Array Slot} {x : Nat} {rest : List Value} {lv : List (Nat × Value)}, lv_has ls nL lv → i < nL → (∀ ls', lv_has ls' nL ((i, Value.ref x) :: lv.filter (fun q => !(q.1 == i) && !(q.1 + 1 == i && q.2.category == 2))) → W p l e R s m args below meth c H locs k0 z0 Q (F0 m pc1 ls' rest)) → W p l e R s m args below meth c H locs k0 z0 Q (F0 m pc ls (.ref x :: rest)))
    (rowN : ∀ {H : Heap} {locs : List Loc} {ls : Array Slot} {rest : List Value} {lv : List (Nat × Value)}, lv_has ls nL lv → i < nL → (∀ ls', lv_has ls' nL ((i, Value.null) :: lv.filter (fun q => !(q.1 == i) && !(q.1 + 1 == i && q.2.category == 2))) → W p l e R s m args below meth c H locs k0 z0 Q (F0 m pc1 ls' rest)) → W p l e R s m args below meth c H locs k0 z0 Q (F0 m pc ls (.null :: rest)))
    (hs : kn_sta nL pc1 lo i st h = some (.inl (f1, h1, k, z))) (hk : kn_Nx cl b base L xs cA D nL p l e R s m args below meth c Q f1 h1 (k0 + k) (z0 + z)) : kn_Nx cl b base L xs cA D nL p l e R s m args below meth c Q (pc, lo, st) h k0 z0 := by
  unfold kn_sta at hs
  split at hs
  · rename_i x r
    cases hc : Nat.ble (i + 1) nL with
    | false => rw [hc] at hs; cases hs
    | true =>
      rw [hc] at hs
      cases hs
      intro H locs ls hR hl
      exact row hl (Nat.le_of_ble_eq_true hc) (fun ls' hl' => hk H locs ls' hR (by rw [kn_vs_s1]; exact hl'))
  · rename_i r
    cases hc : Nat.ble (i + 1) nL with
    | false => rw [hc] at hs; cases hs
    | true =>
      rw [hc] at hs
      cases hs
      intro H locs ls hR hl
      exact rowN hl (Nat.le_of_ble_eq_true hc) (fun ls' hl' => hk H locs ls' hR (by rw [kn_vs_s1]; exact hl'))
  · cases hs
theorem kn_W_inc {i : Nat} {n : Int} (row : ∀ {H : Heap} {locs : List Loc} {ls : Array Slot} {x : Int32} {rest : List Value} {lv : List (Nat × Value)} {j : Nat}, lv_has ls nL lv → lv[j]? = some (i, .int x) → i < nL → (∀ ls', lv_has ls' nL ((i, Value.int (x + Int32.ofInt n)) :: lv.filter (fun q => !(q.1 == i) && !(q.1 + 1 == i && q.2.category == 2))) → W p l e R s m args below meth c H locs k0 z0 Q (F0 m pc1 ls' rest)) → W p l e R s m args below meth c H locs k0 z0 Q (F0 m pc ls rest))
    (hs : kn_inc nL pc1 lo i n st h = some (.inl (f1, h1, k, z))) (hk : kn_Nx cl b base L xs cA D nL p l e R s m args below meth c Q f1 h1 (k0 + k) (z0 + z)) : kn_Nx cl b base L xs cA D nL p l e R s m args below meth c Q (pc, lo, st) h k0 z0 := by
  unfold kn_inc at hs
  split at hs
  · rename_i x hx
    cases hc : Nat.ble (i + 1) nL with
    | false => rw [hc] at hs; cases hs
    | true =>
      rw [hc] at hs
      cases hs
      intro H locs ls hR hl
      have hm : (i, Value.int x) ∈ kn_vs b base lo := List.mem_map.mpr ⟨(i, .int x), kn_ld_mem hx, rfl⟩
      obtain ⟨j, hj⟩ := List.getElem?_of_mem hm
      exact row hl hj (Nat.le_of_ble_eq_true hc) (fun ls' hl' => hk H locs ls' hR (by rw [kn_vs_s1]; exact hl'))
  · cases hs
theorem kn_W_ii {f : Int32 → Int32 → Int32} (row : ∀ {H : Heap} {locs : List Loc} {ls : Array Slot} {x y : Int32} {rest : List Value}, W p l e R s m args below meth c H locs k0 z0 Q (F0 m pc1 ls (.int (f x y) :: rest)) → W p l e R s m args below meth c H locs k0 z0 Q (F0 m pc ls (.int y :: .int x :: rest)))
    (hs : kn_ii f pc1 lo st h = some (.inl (f1, h1, k, z))) (hk : kn_Nx cl b base L xs cA D nL p l e R s m args below meth c Q f1 h1 (k0 + k) (z0 + z)) : kn_Nx cl b base L xs cA D nL p l e R s m args below meth c Q (pc, lo, st) h k0 z0 := by
  unfold kn_ii at hs
  split at hs
  · cases hs
    intro H locs ls hR hl
    exact row (hk H locs ls hR hl)
  · cases hs
theorem kn_W_id {f : Int32 → Int32 → Int32} (row : ∀ {H : Heap} {locs : List Loc} {ls : Array Slot} {x y : Int32} {rest : List Value}, ¬ y = 0 → W p l e R s m args below meth c H locs k0 z0 Q (F0 m pc1 ls (.int (f x y) :: rest)) → W p l e R s m args below meth c H locs k0 z0 Q (F0 m pc ls (.int y :: .int x :: rest)))
    (hs : kn_id f pc1 lo st h = some (.inl (f1, h1, k, z))) (hk : kn_Nx cl b base L xs cA D nL p l e R s m args below meth c Q f1 h1 (k0 + k) (z0 + z)) : kn_Nx cl b base L xs cA D nL p l e R s m args below meth c Q (pc, lo, st) h k0 z0 := by
  unfold kn_id at hs
  split at hs
  · split at hs
    · cases hs
    · rename_i hne
      cases hs
      intro H locs ls hR hl
      exact row hne (hk H locs ls hR hl)
  · cases hs
theorem kn_W_ll {f : Int64 → Int64 → Int64} (row : ∀ {H : Heap} {locs : List Loc} {ls : Array Slot} {x y : Int64} {rest : List Value}, W p l e R s m args below meth c H locs k0 z0 Q (F0 m pc1 ls (.long (f x y) :: rest)) → W p l e R s m args below meth c H locs k0 z0 Q (F0 m pc ls (.long y :: .long x :: rest)))
    (hs : kn_ll f pc1 lo st h = some (.inl (f1, h1, k, z))) (hk : kn_Nx cl b base L xs cA D nL p l e R s m args below meth c Q f1 h1 (k0 + k) (z0 + z)) : kn_Nx cl b base L xs cA D nL p l e R s m args below meth c Q (pc, lo, st) h k0 z0 := by
  unfold kn_ll at hs
  split at hs
  · cases hs
    intro H locs ls hR hl
    exact row (hk H locs ls hR hl)
  · cases hs
theorem kn_W_ldv {f : Int64 → Int64 → Int64} (row : ∀ {H : Heap} {locs : List Loc} {ls : Array Slot} {x y : Int64} {rest : List Value}, ¬ y = 0 → W p l e R s m args below meth c H locs k0 z0 Q (F0 m pc1 ls (.long (f x y) :: rest)) → W p l e R s m args below meth c H locs k0 z0 Q (F0 m pc ls (.long y :: .long x :: rest)))
    (hs : kn_ldv f pc1 lo st h = some (.inl (f1, h1, k, z))) (hk : kn_Nx cl b base L xs cA D nL p l e R s m args below meth c Q f1 h1 (k0 + k) (z0 + z)) : kn_Nx cl b base L xs cA D nL p l e R s m args below meth c Q (pc, lo, st) h k0 z0 := by
  unfold kn_ldv at hs
  split at hs
  · split at hs
    · cases hs
    · rename_i hne
      cases hs
      intro H locs ls hR hl
      exact row hne (hk H locs ls hR hl)
  · cases hs
theorem kn_W_li {f : Int64 → Int32 → Int64} (row : ∀ {H : Heap} {locs : List Loc} {ls : Array Slot} {x : Int64} {y : Int32} {rest : List Value}, W p l e R s m args below meth c H locs k0 z0 Q (F0 m pc1 ls (.long (f x y) :: rest)) → W p l e R s m args below meth c H locs k0 z0 Q (F0 m pc ls (.int y :: .long x :: rest)))
    (hs : kn_li f pc1 lo st h = some (.inl (f1, h1, k, z))) (hk : kn_Nx cl b base L xs cA D nL p l e R s m args below meth c Q f1 h1 (k0 + k) (z0 + z)) : kn_Nx cl b base L xs cA D nL p l e R s m args below meth c Q (pc, lo, st) h k0 z0 := by
  unfold kn_li at hs
  split at hs
  · cases hs
    intro H locs ls hR hl
    exact row (hk H locs ls hR hl)
  · cases hs
theorem kn_W_lc (row : ∀ {H : Heap} {locs : List Loc} {ls : Array Slot} {x y : Int64} {rest : List Value}, W p l e R s m args below meth c H locs k0 z0 Q (F0 m pc1 ls (.int (lg_cmp x y) :: rest)) → W p l e R s m args below meth c H locs k0 z0 Q (F0 m pc ls (.long y :: .long x :: rest)))
    (hs : kn_lc pc1 lo st h = some (.inl (f1, h1, k, z))) (hk : kn_Nx cl b base L xs cA D nL p l e R s m args below meth c Q f1 h1 (k0 + k) (z0 + z)) : kn_Nx cl b base L xs cA D nL p l e R s m args below meth c Q (pc, lo, st) h k0 z0 := by
  unfold kn_lc at hs
  split at hs
  · cases hs
    intro H locs ls hR hl
    exact row (hk H locs ls hR hl)
  · cases hs
theorem kn_W_1i {f : Int32 → Value} (row : ∀ {H : Heap} {locs : List Loc} {ls : Array Slot} {x : Int32} {rest : List Value}, W p l e R s m args below meth c H locs k0 z0 Q (F0 m pc1 ls (kn_v b base (f x) :: rest)) → W p l e R s m args below meth c H locs k0 z0 Q (F0 m pc ls (.int x :: rest)))
    (hs : kn_1i f pc1 lo st h = some (.inl (f1, h1, k, z))) (hk : kn_Nx cl b base L xs cA D nL p l e R s m args below meth c Q f1 h1 (k0 + k) (z0 + z)) : kn_Nx cl b base L xs cA D nL p l e R s m args below meth c Q (pc, lo, st) h k0 z0 := by
  unfold kn_1i at hs
  split at hs
  · cases hs
    intro H locs ls hR hl
    exact row (hk H locs ls hR hl)
  · cases hs
theorem kn_W_1l {f : Int64 → Value} (row : ∀ {H : Heap} {locs : List Loc} {ls : Array Slot} {x : Int64} {rest : List Value}, W p l e R s m args below meth c H locs k0 z0 Q (F0 m pc1 ls (kn_v b base (f x) :: rest)) → W p l e R s m args below meth c H locs k0 z0 Q (F0 m pc ls (.long x :: rest)))
    (hs : kn_1l f pc1 lo st h = some (.inl (f1, h1, k, z))) (hk : kn_Nx cl b base L xs cA D nL p l e R s m args below meth c Q f1 h1 (k0 + k) (z0 + z)) : kn_Nx cl b base L xs cA D nL p l e R s m args below meth c Q (pc, lo, st) h k0 z0 := by
  unfold kn_1l at hs
  split at hs
  · cases hs
    intro H locs ls hR hl
    exact row (hk H locs ls hR hl)
  · cases hs
theorem kn_c1_eq {v : Value} (h : kn_c1 v = true) : (kn_v b base v).category = 1 := by rw [kn_v_cat]; exact Nat.eq_of_beq_eq_true h
theorem kn_W_dup (row : ∀ {H : Heap} {locs : List Loc} {ls : Array Slot} {x : Value} {rest : List Value}, x.category = 1 → W p l e R s m args below meth c H locs k0 z0 Q (F0 m pc1 ls (x :: x :: rest)) → W p l e R s m args below meth c H locs k0 z0 Q (F0 m pc ls (x :: rest)))
    (hs : kn_dup pc1 lo st h = some (.inl (f1, h1, k, z))) (hk : kn_Nx cl b base L xs cA D nL p l e R s m args below meth c Q f1 h1 (k0 + k) (z0 + z)) : kn_Nx cl b base L xs cA D nL p l e R s m args below meth c Q (pc, lo, st) h k0 z0 := by
  unfold kn_dup at hs
  split at hs
  · rename_i a r
    cases hc : kn_c1 a with
    | false => rw [hc] at hs; cases hs
    | true =>
      rw [hc] at hs
      cases hs
      intro H locs ls hR hl
      exact row (kn_c1_eq hc) (hk H locs ls hR hl)
  · cases hs
theorem kn_W_pop (row : ∀ {H : Heap} {locs : List Loc} {ls : Array Slot} {x : Value} {rest : List Value}, x.category = 1 → W p l e R s m args below meth c H locs k0 z0 Q (F0 m pc1 ls rest) → W p l e R s m args below meth c H locs k0 z0 Q (F0 m pc ls (x :: rest)))
    (hs : kn_pop pc1 lo st h = some (.inl (f1, h1, k, z))) (hk : kn_Nx cl b base L xs cA D nL p l e R s m args below meth c Q f1 h1 (k0 + k) (z0 + z)) : kn_Nx cl b base L xs cA D nL p l e R s m args below meth c Q (pc, lo, st) h k0 z0 := by
  unfold kn_pop at hs
  split at hs
  · rename_i a r
    cases hc : kn_c1 a with
    | false => rw [hc] at hs; cases hs
    | true =>
      rw [hc] at hs
      cases hs
      intro H locs ls hR hl
      exact row (kn_c1_eq (b := b) (base := base) hc) (hk H locs ls hR hl)
  · cases hs
theorem kn_W_dx1 (row : ∀ {H : Heap} {locs : List Loc} {ls : Array Slot} {x y : Value} {rest : List Value}, x.category = 1 → y.category = 1 → W p l e R s m args below meth c H locs k0 z0 Q (F0 m pc1 ls (x :: y :: x :: rest)) → W p l e R s m args below meth c H locs k0 z0 Q (F0 m pc ls (x :: y :: rest)))
    (hs : kn_dx1 pc1 lo st h = some (.inl (f1, h1, k, z))) (hk : kn_Nx cl b base L xs cA D nL p l e R s m args below meth c Q f1 h1 (k0 + k) (z0 + z)) : kn_Nx cl b base L xs cA D nL p l e R s m args below meth c Q (pc, lo, st) h k0 z0 := by
  unfold kn_dx1 at hs
  split at hs
  · rename_i a a2 r
    cases hc : kn_c1 a && kn_c1 a2 with
    | false => rw [hc] at hs; cases hs
    | true =>
      rw [hc] at hs
      obtain ⟨c1, c2⟩ := Bool.and_eq_true_iff.mp hc
      cases hs
      intro H locs ls hR hl
      exact row (kn_c1_eq c1) (kn_c1_eq c2) (hk H locs ls hR hl)
  · cases hs
theorem kn_W_dx2 (row : ∀ {H : Heap} {locs : List Loc} {ls : Array Slot} {x y w : Value} {rest : List Value}, x.category = 1 → y.category = 1 → w.category = 1 → W p l e R s m args below meth c H locs k0 z0 Q (F0 m pc1 ls (x :: y :: w :: x :: rest)) → W p l e R s m args below meth c H locs k0 z0 Q (F0 m pc ls (x :: y :: w :: rest)))
    (hs : kn_dx2 pc1 lo st h = some (.inl (f1, h1, k, z))) (hk : kn_Nx cl b base L xs cA D nL p l e R s m args below meth c Q f1 h1 (k0 + k) (z0 + z)) : kn_Nx cl b base L xs cA D nL p l e R s m args below meth c Q (pc, lo, st) h k0 z0 := by
  unfold kn_dx2 at hs
  split at hs
  · rename_i a a2 a3 r
    cases hc : kn_c1 a && (kn_c1 a2 && kn_c1 a3) with
    | false => rw [hc] at hs; cases hs
    | true =>
      rw [hc] at hs
      obtain ⟨c1, c2⟩ := Bool.and_eq_true_iff.mp hc
      obtain ⟨c2, c3⟩ := Bool.and_eq_true_iff.mp c2
      cases hs
      intro H locs ls hR hl
      exact row (kn_c1_eq c1) (kn_c1_eq c2) (kn_c1_eq c3) (hk H locs ls hR hl)
  · cases hs
theorem kn_W_d2 (row : ∀ {H : Heap} {locs : List Loc} {ls : Array Slot} {x y : Value} {rest : List Value}, x.category = 1 → y.category = 1 → W p l e R s m args below meth c H locs k0 z0 Q (F0 m pc1 ls (x :: y :: x :: y :: rest)) → W p l e R s m args below meth c H locs k0 z0 Q (F0 m pc ls (x :: y :: rest)))
    (hs : kn_d2 pc1 lo st h = some (.inl (f1, h1, k, z))) (hk : kn_Nx cl b base L xs cA D nL p l e R s m args below meth c Q f1 h1 (k0 + k) (z0 + z)) : kn_Nx cl b base L xs cA D nL p l e R s m args below meth c Q (pc, lo, st) h k0 z0 := by
  unfold kn_d2 at hs
  split at hs
  · rename_i a a2 r
    cases hc : kn_c1 a && kn_c1 a2 with
    | false => rw [hc] at hs; cases hs
    | true =>
      rw [hc] at hs
      obtain ⟨c1, c2⟩ := Bool.and_eq_true_iff.mp hc
      cases hs
      intro H locs ls hR hl
      exact row (kn_c1_eq c1) (kn_c1_eq c2) (hk H locs ls hR hl)
  · cases hs
theorem kn_W_br {cc : ByteArray} {cnd : ClassFile.Cond} {t n : Nat} {off : Int} (hx : p.tables.exec = Jvm.exec) (hb : c.code = cc) (hd : decode cc pc = .ok (.if_icmp cnd off, 3)) (ht : (pc : Int) + off = (t : Int)) (hn : n = pc + 3)
    (hs : kn_cmp cnd t n lo st h = some (.inl (f1, h1, k, z))) (hk : kn_Nx cl b base L xs cA D nL p l e R s m args below meth c Q f1 h1 (k0 + k) (z0 + z)) : kn_Nx cl b base L xs cA D nL p l e R s m args below meth c Q (pc, lo, st) h k0 z0 := by
  subst hn
  unfold kn_cmp at hs
  split at hs
  · rename_i y x r
    intro H locs ls hR hl
    cases cnd <;> simp only [kn_br] at hs <;> split at hs <;> rename_i hc <;> cases hs
    · exact lv_icmp_eq hx hb hd ht (fun _ => hk H locs ls hR hl) (fun h => absurd hc h)
    · exact lv_icmp_eq hx hb hd ht (fun h => absurd h hc) (fun _ => hk H locs ls hR hl)
    · exact lv_icmp_ne hx hb hd ht (fun h => absurd hc h) (fun _ => hk H locs ls hR hl)
    · exact lv_icmp_ne hx hb hd ht (fun _ => hk H locs ls hR hl) (fun h => absurd h hc)
    · exact lv_icmp_lt hx hb hd ht (fun _ => hk H locs ls hR hl) (fun h => absurd hc h)
    · exact lv_icmp_lt hx hb hd ht (fun h => absurd h hc) (fun _ => hk H locs ls hR hl)
    · exact lv_icmp_ge hx hb hd ht (fun _ => hk H locs ls hR hl) (fun h => absurd hc h)
    · exact lv_icmp_ge hx hb hd ht (fun h => absurd h hc) (fun _ => hk H locs ls hR hl)
    · exact lv_icmp_gt hx hb hd ht (fun _ => hk H locs ls hR hl) (fun h => absurd hc h)
    · exact lv_icmp_gt hx hb hd ht (fun h => absurd h hc) (fun _ => hk H locs ls hR hl)
    · exact lv_icmp_le hx hb hd ht (fun _ => hk H locs ls hR hl) (fun h => absurd hc h)
    · exact lv_icmp_le hx hb hd ht (fun h => absurd h hc) (fun _ => hk H locs ls hR hl)
  · cases hs
theorem kn_W_if {cc : ByteArray} {cnd : ClassFile.Cond} {t n : Nat} {off : Int} (hx : p.tables.exec = Jvm.exec) (hb : c.code = cc) (hd : decode cc pc = .ok (.ifCond cnd off, 3)) (ht : (pc : Int) + off = (t : Int)) (hn : n = pc + 3)
    (hs : kn_if cnd t n lo st h = some (.inl (f1, h1, k, z))) (hk : kn_Nx cl b base L xs cA D nL p l e R s m args below meth c Q f1 h1 (k0 + k) (z0 + z)) : kn_Nx cl b base L xs cA D nL p l e R s m args below meth c Q (pc, lo, st) h k0 z0 := by
  subst hn
  unfold kn_if at hs
  split at hs
  · rename_i x r
    intro H locs ls hR hl
    cases cnd <;> simp only [kn_br] at hs <;> split at hs <;> rename_i hc <;> cases hs
    · exact lv_if_eq hx hb hd ht (fun _ => hk H locs ls hR hl) (fun h => absurd hc h)
    · exact lv_if_eq hx hb hd ht (fun h => absurd h hc) (fun _ => hk H locs ls hR hl)
    · exact lv_if_ne hx hb hd ht (fun h => absurd hc h) (fun _ => hk H locs ls hR hl)
    · exact lv_if_ne hx hb hd ht (fun _ => hk H locs ls hR hl) (fun h => absurd h hc)
    · exact lv_if_lt hx hb hd ht (fun _ => hk H locs ls hR hl) (fun h => absurd hc h)
    · exact lv_if_lt hx hb hd ht (fun h => absurd h hc) (fun _ => hk H locs ls hR hl)
    · exact lv_if_ge hx hb hd ht (fun _ => hk H locs ls hR hl) (fun h => absurd hc h)
    · exact lv_if_ge hx hb hd ht (fun h => absurd h hc) (fun _ => hk H locs ls hR hl)
    · exact lv_if_gt hx hb hd ht (fun _ => hk H locs ls hR hl) (fun h => absurd hc h)
    · exact lv_if_gt hx hb hd ht (fun h => absurd h hc) (fun _ => hk H locs ls hR hl)
    · exact lv_if_le hx hb hd ht (fun _ => hk H locs ls hR hl) (fun h => absurd hc h)
    · exact lv_if_le hx hb hd ht (fun h => absurd h hc) (fun _ => hk H locs ls hR hl)
  · cases hs
theorem kn_W_null {cc : ByteArray} {t : Nat} {off : Int} (hx : p.tables.exec = Jvm.exec) (hb : c.code = cc) (hd : decode cc pc = .ok (.ifnull off, 3)) (ht : (pc : Int) + off = (t : Int))
    (hs : kn_nul t (pc + 3) lo st h = some (.inl (f1, h1, k, z))) (hk : kn_Nx cl b base L xs cA D nL p l e R s m args below meth c Q f1 h1 (k0 + k) (z0 + z)) : kn_Nx cl b base L xs cA D nL p l e R s m args below meth c Q (pc, lo, st) h k0 z0 := by
  unfold kn_nul at hs
  split at hs
  · cases hs
    intro H locs ls hR hl
    exact lv_ifnull hx hb hd (hk H locs ls hR hl)
  · cases hs
    intro H locs ls hR hl
    exact lv_ifnullN hx hb hd ht (hk H locs ls hR hl)
  · cases hs
theorem kn_W_nonnull {cc : ByteArray} {t : Nat} {off : Int} (hx : p.tables.exec = Jvm.exec) (hb : c.code = cc) (hd : decode cc pc = .ok (.ifnonnull off, 3)) (ht : (pc : Int) + off = (t : Int))
    (hs : kn_nul (pc + 3) t lo st h = some (.inl (f1, h1, k, z))) (hk : kn_Nx cl b base L xs cA D nL p l e R s m args below meth c Q f1 h1 (k0 + k) (z0 + z)) : kn_Nx cl b base L xs cA D nL p l e R s m args below meth c Q (pc, lo, st) h k0 z0 := by
  unfold kn_nul at hs
  split at hs
  · cases hs
    intro H locs ls hR hl
    exact lv_ifnonnull hx hb hd ht (hk H locs ls hR hl)
  · cases hs
    intro H locs ls hR hl
    exact lv_ifnonnullN hx hb hd (hk H locs ls hR hl)
  · cases hs
end KNS1
end
section
theorem kn_fit_ok {b base tc : Nat} {ty : FieldType} {v : Value} (ht : kn_tc ty = tc) (hf : kn_fit tc v = true) : narrow ty (kn_v b base v) = kn_v b base v ∧ fits ty (kn_v b base v) = true := by
  subst ht
  cases v with
  | int x =>
    cases ty <;> first | exact ⟨rfl, rfl⟩ | (exfalso; exact Bool.false_ne_true hf) | skip
    have hx : (x == 0 || x == 1) = true := hf
    rcases Bool.or_eq_true_iff.mp hx with h | h
    · have e := eq_of_beq h
      subst e
      exact ⟨rfl, rfl⟩
    · have e := eq_of_beq h
      subst e
      exact ⟨rfl, rfl⟩
  | long x => cases ty <;> first | exact ⟨rfl, rfl⟩ | (exfalso; exact Bool.false_ne_true hf)
  | null => cases ty <;> first | exact ⟨rfl, rfl⟩ | (exfalso; exact Bool.false_ne_true hf)
  | ref a => cases ty <;> first | exact ⟨rfl, rfl⟩ | (exfalso; exact Bool.false_ne_true hf)
  | float x => cases hf
  | double x => cases hf
  | retAddr x => cases hf
section KNS2
variable {p : Program} {l : Launch} {e : Env} {R : Room} {s : State} {m : MethodId} {args : Array Value} {below : List Frame} {meth : Method} {c : Code} {Q : State → Prop} {k0 z0 : Nat}
variable {cl : List vw_C} {Tg Ns : List Cond} {b base L : Nat} {xs : Nat → Int32} {cA : FieldType → ClassId} {D : va_G} {M : kn_M} {pc pc1 nL : Nat} {lo : List (Nat × Value)} {st : List Value} {h : kn_H}
variable {f1 : kn_F} {h1 : kn_H} {k z : Nat}
theorem kn_W_get {ci fk idx : Nat} {rest : List Nat} {C : String} {F : u_T} {N : Nat} (C0 : kn_Ctx cl Tg Ns b base L xs cA D M p R s m args meth c) (hc : cl[ci]? = some (C, F, N)) (hin : ∀ w ∈ u_ws C F N, w ∈ Tg) (hkN : fk < N)
    (hw : Cond.fieldLink M.1.cls idx (F fk).1 (F fk).2.1 (F fk).2.2.1 ∈ Tg ∨ ∃ host, Cond.fieldLinkNest M.1.cls idx (F fk).1 (F fk).2.1 (F fk).2.2.1 host ∈ Ns) (hd : decode M.2.1 pc = .ok (.getfield idx, 3))
    (hs : kn_get (pc + 3) (ci :: fk :: rest) lo st h = some (.inl (f1, h1, k, z))) (hk : kn_Nx cl b base L xs cA D nL p l e R s m args below meth c Q f1 h1 (k0 + k) (z0 + z)) : kn_Nx cl b base L xs cA D nL p l e R s m args below meth c Q (pc, lo, st) h k0 z0 := by
  obtain ⟨hx, hb, hr, hml, hown, hts, hns, hlk, hnm, hK, hX, hbb, hbs, hfr, hlc⟩ := C0
  unfold kn_get at hs
  split at hs
  · rename_i a r ci' fk' rest' he
    obtain ⟨rfl, rfl, rfl⟩ : ci = ci' ∧ fk = fk' ∧ rest = rest' := by simpa using he
    split at hs
    · rename_i c' fs hat
      cases hbq : Nat.beq c' ci with
      | false => rw [hbq] at hs; cases hs
      | true =>
        rw [hbq] at hs
        have hce : c' = ci := Nat.eq_of_beq_eq_true hbq
        subst hce
        dsimp only [cond_true] at hs
        split at hs
        · rename_i v hv
          cases hs
          intro H locs ls hR hl
          obtain ⟨rr, rfl, hz, hP, hS⟩ := id hR
          cases a with
          | zero => cases hat
          | succ a =>
            have hat' : kn_at rr a = some (.inr (c', fs)) := hat
            have hv' : (fs.map (kn_v b base))[fk]? = some (kn_v b base v) := by rw [List.getElem?_map, ← kn_at_eq, hv]; rfl
            rcases hw with hw | ⟨host, hw⟩
            · exact va_get hx hb hts hin hown hK hP a (kn_w_get hat') hc fk hkN (hts _ hw) (fun _ h9 => h9) hv' hd (hk H locs ls hR hl)
            · exact va_getN hx hb hts hin hown hK hP a (kn_w_get hat') hc fk hkN (va_Nw.use rfl (hns _ hw)) (fun _ h9 => h9) hv' hd (hk H locs ls hR hl)
        · cases hs
    · cases hs
  · cases hs
/-- a cell's new contents -/
theorem kn_rel_set {H1 : Heap} {locs1 : List Loc} {rr : kn_H} {a : Nat} {x : kn_C} (hz : s.heap.size + k0 = base + rr.length) (hP : va_P D cl ((kn_w (kn_e cA b base) base rr).set a (base + a, kn_e cA b base x)) H1) (hS : va_S (fun q => base ≤ q) s.heap H1 locs1) : kn_Rel cl b base L xs cA D s H1 locs1 k0 ((Sum.inl (.int, L, .inl xs) :: rr).set (a + 1) x) :=
  ⟨rr.set a x, rfl, by rw [List.length_set]; exact hz, by rw [kn_w_set]; exact hP, hS⟩
theorem kn_W_put {ci fk tc idx : Nat} {rest : List Nat} {C : String} {F : u_T} {N : Nat} {ty : FieldType} (C0 : kn_Ctx cl Tg Ns b base L xs cA D M p R s m args meth c) (hc : cl[ci]? = some (C, F, N)) (hin : ∀ w ∈ u_ws C F N, w ∈ Tg) (hkN : fk < N)
    (ty0 : Nat → FieldType) (hty : ∀ k, k < N → parseFieldDescriptor (F k).2.2.1 = some (ty0 k)) (hnmF : ∀ a, a < N → ∀ b, b < N → a ≠ b → (F a).2.1 ≠ (F b).2.1) (htc : parseFieldDescriptor (F fk).2.2.1 = some ty) (htc2 : kn_tc ty = tc)
    (hw : ((F fk).2.2.2 = false ∧ (Cond.fieldLink M.1.cls idx (F fk).1 (F fk).2.1 (F fk).2.2.1 ∈ Tg ∨ ∃ host, Cond.fieldLinkNest M.1.cls idx (F fk).1 (F fk).2.1 (F fk).2.2.1 host ∈ Ns)) ∨ ((F fk).2.2.2 = true ∧ M.1.name = "<init>" ∧ (F fk).1 = M.1.cls ∧ Cond.fieldLink M.1.cls idx (F fk).1 (F fk).2.1 (F fk).2.2.1 ∈ Tg)) (hd : decode M.2.1 pc = .ok (.putfield idx, 3))
    (hs : kn_put (pc + 3) (ci :: fk :: tc :: rest) lo st h = some (.inl (f1, h1, k, z))) (hk : kn_Nx cl b base L xs cA D nL p l e R s m args below meth c Q f1 h1 (k0 + k) (z0 + z)) : kn_Nx cl b base L xs cA D nL p l e R s m args below meth c Q (pc, lo, st) h k0 z0 := by
  obtain ⟨hx, hb, hr, hml, hown, hts, hns, hlk, hnm, hK, hX, hbb, hbs, hfr, hlc⟩ := C0
  unfold kn_put at hs
  split at hs
  · rename_i v a r ci' fk' tc' rest' he
    obtain ⟨rfl, rfl, rfl, rfl⟩ : ci = ci' ∧ fk = fk' ∧ tc = tc' ∧ rest = rest' := by simpa using he
    split at hs
    · rename_i c' fs hat
      cases hbq : Nat.beq c' ci && (Nat.ble (fk + 1) fs.length && kn_fit tc v) with
      | false => rw [hbq] at hs; cases hs
      | true =>
        rw [hbq] at hs
        obtain ⟨q1, q2⟩ := Bool.and_eq_true_iff.mp hbq
        obtain ⟨q2, q3⟩ := Bool.and_eq_true_iff.mp q2
        have hce : c' = ci := Nat.eq_of_beq_eq_true q1
        have hlt : fk < fs.length := Nat.le_of_ble_eq_true q2
        subst hce
        cases hs
        intro H locs ls hR hl
        obtain ⟨rr, rfl, hz, hP, hS⟩ := id hR
        have hat' : kn_at rr a = some (.inr (c', fs)) := hat
        obtain ⟨hn1, hf1⟩ := kn_fit_ok (b := b) (base := base) htc2 q3
        have hD := kn_w_D (kn_e cA b base) rr base
        have hlm : fk < (fs.map (kn_v b base)).length := by rw [List.length_map]; exact hlt
        have key : ∀ (H1 : Heap) (locs1 : List Loc), va_P D cl ((kn_w (kn_e cA b base) base rr).set a (base + a, .inr (c', (fs.map (kn_v b base)).set fk (kn_v b base v)))) H1 → va_S (fun q => base ≤ q) s.heap H1 locs1 → W p l e R s m args below meth c H1 locs1 k0 z0 Q (F0 m (pc + 3) ls (r.map (kn_v b base))) := by
          intro H1 locs1 hP1 hS1
          refine hk H1 locs1 ls (kn_rel_set hz ?_ hS1) hl
          rw [← List.map_set] at hP1
          exact hP1
        rcases hw with ⟨hfin, hw | ⟨host, hw⟩⟩ | ⟨hfin, hin2, hdecl, hw⟩
        · exact va_put hx hb hts hin ty0 hty hnmF hown hK hP hD hS a (kn_w_get hat') hc fk hkN (hts _ hw) (fun _ h9 => h9) hfin htc hn1 hf1 hlm hd (fun H1 locs1 hP1 _ hS1 => key H1 locs1 hP1 hS1)
        · exact va_putN hx hb hts hin ty0 hty hnmF hown hK hP hD hS a (kn_w_get hat') hc fk hkN (va_Nw.use rfl (hns _ hw)) (fun _ h9 => h9) hfin htc hn1 hf1 hlm hd (fun H1 locs1 hP1 _ hS1 => key H1 locs1 hP1 hS1)
        · exact va_putF hx hb hts hin ty0 hty hnmF hown hK hP hD hS a (kn_w_get hat') hc fk hkN (hts _ hw) (fun _ h9 => h9) hfin (hnm hin2) hdecl htc hn1 hf1 hlm hd (fun H1 locs1 hP1 _ hS1 => key H1 locs1 hP1 hS1)
    · cases hs
  · cases hs
theorem kn_W_ald (C0 : kn_Ctx cl Tg Ns b base L xs cA D M p R s m args meth c) (hd : decode M.2.1 pc = .ok (.iaload, 1))
    (hs : kn_ald 0 (pc + 1) lo st h = some (.inl (f1, h1, k, z))) (hk : kn_Nx cl b base L xs cA D nL p l e R s m args below meth c Q f1 h1 (k0 + k) (z0 + z)) : kn_Nx cl b base L xs cA D nL p l e R s m args below meth c Q (pc, lo, st) h k0 z0 := by
  obtain ⟨hx, hb, hr, hml, hown, hts, hns, hlk, hnm, hK, hX, hbb, hbs, hfr, hlc⟩ := C0
  unfold kn_ald at hs
  split at hs
  · rename_i i a r
    split at hs
    · rename_i ty n f hat
      cases hbq : Nat.beq (kn_tc ty) 0 with
      | false => rw [hbq] at hs; cases hs
      | true =>
        rw [hbq] at hs
        dsimp only [cond_true] at hs
        split at hs
        · cases hs
        · rename_i hv
          cases hs
          have hty : ty = .int := by cases ty <;> first | rfl | cases hbq
          subst hty
          intro H locs ls hR hl
          obtain ⟨rr, rfl, hz, hP, hS⟩ := id hR
          cases a with
          | zero =>
            cases hat
            exact va_sld hx hb hX (Nat.lt_of_lt_of_le hbb hbs) (Nat.not_le.mpr hbb) hS hv hd (hk H locs ls hR hl)
          | succ a =>
            have hat' : kn_at rr a = some (.inl (.int, n, .inl f)) := hat
            exact va_iald hx hb hK hP a 0 (kn_w_get hat') rfl hv hd (hk H locs ls hR hl)
    · cases hs
  · cases hs
theorem kn_W_bald (C0 : kn_Ctx cl Tg Ns b base L xs cA D M p R s m args meth c) (hd : decode M.2.1 pc = .ok (.baload, 1))
    (hs : kn_ald 2 (pc + 1) lo st h = some (.inl (f1, h1, k, z))) (hk : kn_Nx cl b base L xs cA D nL p l e R s m args below meth c Q f1 h1 (k0 + k) (z0 + z)) : kn_Nx cl b base L xs cA D nL p l e R s m args below meth c Q (pc, lo, st) h k0 z0 := by
  obtain ⟨hx, hb, hr, hml, hown, hts, hns, hlk, hnm, hK, hX, hbb, hbs, hfr, hlc⟩ := C0
  unfold kn_ald at hs
  split at hs
  · rename_i i a r
    split at hs
    · rename_i ty n f hat
      cases hbq : Nat.beq (kn_tc ty) 2 with
      | false => rw [hbq] at hs; cases hs
      | true =>
        rw [hbq] at hs
        dsimp only [cond_true] at hs
        split at hs
        · cases hs
        · rename_i hv
          cases hs
          have hty : ty = .boolean := by cases ty <;> first | rfl | cases hbq
          subst hty
          intro H locs ls hR hl
          obtain ⟨rr, rfl, hz, hP, hS⟩ := id hR
          cases a with
          | zero => cases hat
          | succ a =>
            have hat' : kn_at rr a = some (.inl (.boolean, n, .inl f)) := hat
            exact va_zald hx hb hK hP a 2 (kn_w_get hat') rfl hv hd (hk H locs ls hR hl)
    · cases hs
  · cases hs
theorem kn_W_lald (C0 : kn_Ctx cl Tg Ns b base L xs cA D M p R s m args meth c) (hd : decode M.2.1 pc = .ok (.laload, 1))
    (hs : kn_lald (pc + 1) lo st h = some (.inl (f1, h1, k, z))) (hk : kn_Nx cl b base L xs cA D nL p l e R s m args below meth c Q f1 h1 (k0 + k) (z0 + z)) : kn_Nx cl b base L xs cA D nL p l e R s m args below meth c Q (pc, lo, st) h k0 z0 := by
  obtain ⟨hx, hb, hr, hml, hown, hts, hns, hlk, hnm, hK, hX, hbb, hbs, hfr, hlc⟩ := C0
  unfold kn_lald at hs
  split at hs
  · rename_i i a r
    split at hs
    · rename_i ty n f hat
      cases hbq : Nat.beq (kn_tc ty) 1 with
      | false => rw [hbq] at hs; cases hs
      | true =>
        rw [hbq] at hs
        dsimp only [cond_true] at hs
        split at hs
        · cases hs
        · rename_i hv
          cases hs
          have hty : ty = .long := by cases ty <;> first | rfl | cases hbq
          subst hty
          intro H locs ls hR hl
          obtain ⟨rr, rfl, hz, hP, hS⟩ := id hR
          have hat' : kn_at rr a = some (.inl (.long, n, .inr (.inl f))) := hat
          exact va_lald hx hb hK hP a 1 (kn_w_get hat') rfl hv hd (hk H locs ls hR hl)
    · cases hs
  · cases hs
theorem kn_W_ast (C0 : kn_Ctx cl Tg Ns b base L xs cA D M p R s m args meth c) (hd : decode M.2.1 pc = .ok (.iastore, 1))
    (hs : kn_ast (pc + 1) lo st h = some (.inl (f1, h1, k, z))) (hk : kn_Nx cl b base L xs cA D nL p l e R s m args below meth c Q f1 h1 (k0 + k) (z0 + z)) : kn_Nx cl b base L xs cA D nL p l e R s m args below meth c Q (pc, lo, st) h k0 z0 := by
  obtain ⟨hx, hb, hr, hml, hown, hts, hns, hlk, hnm, hK, hX, hbb, hbs, hfr, hlc⟩ := C0
  unfold kn_ast at hs
  split at hs
  · rename_i x i a r
    split at hs
    · rename_i ty n f hat
      cases hbq : Nat.beq (kn_tc ty) 0 with
      | false => rw [hbq] at hs; cases hs
      | true =>
        rw [hbq] at hs
        dsimp only [cond_true] at hs
        split at hs
        · cases hs
        · rename_i hv
          cases hs
          have hty : ty = .int := by cases ty <;> first | rfl | cases hbq
          subst hty
          intro H locs ls hR hl
          obtain ⟨rr, rfl, hz, hP, hS⟩ := id hR
          have hat' : kn_at rr a = some (.inl (.int, n, .inl f)) := hat
          exact va_iast hx hb hK hP (kn_w_D (kn_e cA b base) rr base) hS a 0 (kn_w_get hat') rfl hv hd (fun H1 locs1 hP1 _ hS1 => hk H1 locs1 ls (kn_rel_set hz hP1 hS1) hl)
    · cases hs
  · cases hs
theorem kn_W_last (C0 : kn_Ctx cl Tg Ns b base L xs cA D M p R s m args meth c) (hd : decode M.2.1 pc = .ok (.lastore, 1))
    (hs : kn_last (pc + 1) lo st h = some (.inl (f1, h1, k, z))) (hk : kn_Nx cl b base L xs cA D nL p l e R s m args below meth c Q f1 h1 (k0 + k) (z0 + z)) : kn_Nx cl b base L xs cA D nL p l e R s m args below meth c Q (pc, lo, st) h k0 z0 := by
  obtain ⟨hx, hb, hr, hml, hown, hts, hns, hlk, hnm, hK, hX, hbb, hbs, hfr, hlc⟩ := C0
  unfold kn_last at hs
  split at hs
  · rename_i x i a r
    split at hs
    · rename_i ty n f hat
      cases hbq : Nat.beq (kn_tc ty) 1 with
      | false => rw [hbq] at hs; cases hs
      | true =>
        rw [hbq] at hs
        dsimp only [cond_true] at hs
        split at hs
        · cases hs
        · rename_i hv
          cases hs
          have hty : ty = .long := by cases ty <;> first | rfl | cases hbq
          subst hty
          intro H locs ls hR hl
          obtain ⟨rr, rfl, hz, hP, hS⟩ := id hR
          have hat' : kn_at rr a = some (.inl (.long, n, .inr (.inl f))) := hat
          exact va_last hx hb hK hP (kn_w_D (kn_e cA b base) rr base) hS a 1 (kn_w_get hat') rfl hv hd (fun H1 locs1 hP1 _ hS1 => hk H1 locs1 ls (kn_rel_set hz hP1 hS1) hl)
    · cases hs
  · cases hs
theorem kn_W_bast (C0 : kn_Ctx cl Tg Ns b base L xs cA D M p R s m args meth c) (hd : decode M.2.1 pc = .ok (.bastore, 1))
    (hs : kn_bast (pc + 1) lo st h = some (.inl (f1, h1, k, z))) (hk : kn_Nx cl b base L xs cA D nL p l e R s m args below meth c Q f1 h1 (k0 + k) (z0 + z)) : kn_Nx cl b base L xs cA D nL p l e R s m args below meth c Q (pc, lo, st) h k0 z0 := by
  obtain ⟨hx, hb, hr, hml, hown, hts, hns, hlk, hnm, hK, hX, hbb, hbs, hfr, hlc⟩ := C0
  unfold kn_bast at hs
  split at hs
  · rename_i x i a r
    split at hs
    · rename_i ty n f hat
      cases hbq : Nat.beq (kn_tc ty) 2 with
      | false => rw [hbq] at hs; cases hs
      | true =>
        rw [hbq] at hs
        dsimp only [cond_true] at hs
        split at hs
        · cases hs
        · rename_i hv
          cases hs
          have hty : ty = .boolean := by cases ty <;> first | rfl | cases hbq
          subst hty
          intro H locs ls hR hl
          obtain ⟨rr, rfl, hz, hP, hS⟩ := id hR
          have hat' : kn_at rr a = some (.inl (.boolean, n, .inl f)) := hat
          exact va_zast hx hb hK hP (kn_w_D (kn_e cA b base) rr base) hS a 2 (kn_w_get hat') rfl hv hd (fun H1 locs1 hP1 _ hS1 => hk H1 locs1 ls (kn_rel_set hz hP1 hS1) hl)
    · cases hs
  · cases hs
theorem kn_tys_at {ty : FieldType} (h : Nat.ble (kn_tc ty) 2 = true) : ∃ t : Nat, (kn_tys cA)[t]? = some (cA ty, ty) := by
  cases ty <;> first | exact ⟨0, rfl⟩ | exact ⟨1, rfl⟩ | exact ⟨2, rfl⟩ | cases h
theorem kn_W_len (C0 : kn_Ctx cl Tg Ns b base L xs cA D M p R s m args meth c) (hd : decode M.2.1 pc = .ok (.arraylength, 1))
    (hs : kn_len (pc + 1) lo st h = some (.inl (f1, h1, k, z))) (hk : kn_Nx cl b base L xs cA D nL p l e R s m args below meth c Q f1 h1 (k0 + k) (z0 + z)) : kn_Nx cl b base L xs cA D nL p l e R s m args below meth c Q (pc, lo, st) h k0 z0 := by
  obtain ⟨hx, hb, hr, hml, hown, hts, hns, hlk, hnm, hK, hX, hbb, hbs, hfr, hlc⟩ := C0
  unfold kn_len at hs
  split at hs
  · rename_i a r
    split at hs
    · rename_i ty n f hat
      cases hbq : Nat.ble (kn_tc ty) 2 with
      | false => rw [hbq] at hs; cases hs
      | true =>
        rw [hbq] at hs
        cases hs
        intro H locs ls hR hl
        obtain ⟨rr, rfl, hz, hP, hS⟩ := id hR
        cases a with
        | zero =>
          cases hat
          exact va_slen hx hb hX (Nat.lt_of_lt_of_le hbb hbs) (Nat.not_le.mpr hbb) hS hd (hk H locs ls hR hl)
        | succ a =>
          have hat' : kn_at rr a = some (.inl (ty, n, f)) := hat
          obtain ⟨t, ht⟩ := kn_tys_at (cA := cA) hbq
          exact va_alen hx hb hK hP a t (kn_w_get hat') ht rfl hd (hk H locs ls hR hl)
    · cases hs
  · cases hs
/-- a cell more: it lies behind all others -/
theorem kn_newest {rr : kn_H} {q : Nat} {x : va_E} {H1 : Heap} {E : kn_C → va_E} (hP : va_P D cl (kn_w E base rr ++ [(q, x)]) H1) (hD : va_D (fun q => base ≤ q) (kn_w E base rr ++ [(q, x)])) (hz : H1.size ≤ base + rr.length + 1) : q = base + rr.length := by
  have hlast : (kn_w E base rr ++ [(q, x)])[rr.length]? = some (q, x) := by
    rw [List.getElem?_append_right (by rw [kn_w_len]; exact Nat.le_refl _), kn_w_len, Nat.sub_self]; rfl
  have h1 : q < H1.size := (hP _ _ hlast).lt
  have h2 : base ≤ q := hD.2 _ _ hlast
  rcases Nat.lt_or_ge (q - base) rr.length with hlt | hge
  · exfalso
    have hs : ∃ y, kn_at rr (q - base) = some y := by
      rw [kn_at_eq]
      exact ⟨_, List.getElem?_eq_getElem hlt⟩
    obtain ⟨y, hy⟩ := hs
    have hi : (kn_w E base rr ++ [(q, x)])[q - base]? = some (base + (q - base), E y) := by
      rw [List.getElem?_append_left (by rw [kn_w_len]; exact hlt)]
      exact kn_w_get hy
    have := hD.1 _ _ _ _ hi hlast (by show base + (q - base) = q; omega)
    omega
  · omega
theorem kn_dv_ok {ty : FieldType} (h : kn_tc ty ≠ 9) : defaultValue ty = kn_dv (kn_tc ty) := by
  cases ty <;> first | rfl | exact absurd rfl h
theorem kn_W_new {ci idx N : Nat} {tcs : List Nat} {C : String} {F : u_T} (C0 : kn_Ctx cl Tg Ns b base L xs cA D M p R s m args meth c) (hc : cl[ci]? = some (C, F, N)) (hin : ∀ w ∈ u_ws C F N, w ∈ Tg)
    (ty0 : Nat → FieldType) (hty : ∀ k, k < N → parseFieldDescriptor (F k).2.2.1 = some (ty0 k)) (htl : tcs.length = N) (htc : ∀ j, j < N → kn_tc (ty0 j) ≠ 9 ∧ tcs.getD j 9 = kn_tc (ty0 j))
    (hw1 : Cond.classLink M.1.cls idx C ∈ Tg) (hw2 : Cond.instantiable C N ∈ Tg) (hw3 : Cond.initialized C ∈ Tg) (hd : decode M.2.1 pc = .ok (.new idx, 3))
    (hs : kn_new (pc + 3) (ci :: N :: tcs) lo st h = some (.inl (f1, h1, k, z))) (hcells : k0 + k ≤ R.cells) (hslots : z0 + z ≤ R.slots) (hk : kn_Nx cl b base L xs cA D nL p l e R s m args below meth c Q f1 h1 (k0 + k) (z0 + z)) : kn_Nx cl b base L xs cA D nL p l e R s m args below meth c Q (pc, lo, st) h k0 z0 := by
  obtain ⟨hx, hb, hr, hml, hown, hts, hns, hlk, hnm, hK, hX, hbb, hbs, hfr, hlc⟩ := C0
  cases hs
  intro H locs ls hR hl
  obtain ⟨rr, rfl, hz, hP, hS⟩ := id hR
  refine va_new (fs := (tcs.map kn_dv).map (kn_v b base)) hx hb hts hin ty0 hty hown (hts _ hw1) (hts _ hw2) (hts _ hw3) hK hP (kn_w_D (kn_e cA b base) rr base) hS (fun q hq => Nat.le_trans hbs hq) hc ?_ hcells hslots hd (fun q H1 hP1 hD1 hS1 => ?_)
  · intro j hj
    obtain ⟨g1, g2⟩ := htc j hj
    rw [kn_dv_ok g1, ← g2]
    have hjl : j < tcs.length := by rw [htl]; exact hj
    simp only [vp_V, List.getD_eq_getElem?_getD, List.getElem?_map, List.getElem?_eq_getElem hjl, Option.map_some, Option.getD_some]
    generalize tcs[j] = t
    unfold kn_dv
    split <;> rfl
  · refine kn_bound (fun hle => ?_)
    have hq : q = base + rr.length := kn_newest hP1 hD1 (by omega)
    subst hq
    have hg := hk H1 locs ls ⟨rr ++ [.inr (ci, tcs.map kn_dv)], rfl, by rw [List.length_append, ← Nat.add_assoc, hz]; rfl, by rw [kn_w_app]; exact hP1, hS1⟩ hl
    exact hg
theorem kn_W_newa {t : ArrayType} (C0 : kn_Ctx cl Tg Ns b base L xs cA D M p R s m args meth c) (hw : Cond.arrayClass (newarray.typeOf t) ∈ Tg) (hd : decode M.2.1 pc = .ok (.newarray t, 2))
    (hs : kn_newa t (pc + 2) lo st h = some (.inl (f1, h1, k, z))) (hcells : k0 + k ≤ R.cells) (hslots : z0 + z ≤ R.slots) (hk : kn_Nx cl b base L xs cA D nL p l e R s m args below meth c Q f1 h1 (k0 + k) (z0 + z)) : kn_Nx cl b base L xs cA D nL p l e R s m args below meth c Q (pc, lo, st) h k0 z0 := by
  obtain ⟨hx, hb, hr, hml, hown, hts, hns, hlk, hnm, hK, hX, hbb, hbs, hfr, hlc⟩ := C0
  unfold kn_newa at hs
  split at hs
  · rename_i n r
    split at hs
    · cases hs
    · rename_i hn
      have hn1 : ¬ n < 0 := fun q => hn (Or.inl q)
      have hn2 : n.toNatClampNeg ≤ 1000000 := Nat.not_lt.mp (fun q => hn (Or.inr q))
      have key : ∀ (ty : FieldType) (tix : Nat) (a0 : vp_A), newarray.typeOf t = ty → (kn_tys cA)[tix]? = some (cA ty, ty) → va_RA s (cA ty) ty = (s.vm.findClass ("[" ++ ty.toString) = some (cA ty)) → (∀ x, va_RA s x ty = (s.vm.findClass ("[" ++ ty.toString) = some x)) → (∀ x : ClassId, vp_cell x a0 = arrV x n.toNatClampNeg (fun _ => defaultValue ty)) → componentBytes ty ≤ 8 →
          f1 = (pc + 2, lo, .ref h.length :: r) → h1 = h ++ [.inl (ty, a0)] → k = 1 → z = n.toNatClampNeg → kn_Nx cl b base L xs cA D nL p l e R s m args below meth c Q (pc, lo, .int n :: r) h k0 z0 := by
        intro ty tix a0 hty htx _ hra ha0 hcb e1 e2 e3 e4
        subst e1 e2 e3 e4
        intro H locs ls hR hl
        obtain ⟨rr, rfl, hz, hP, hS⟩ := id hR
        refine va_newa hx hb (hts _ hw) hty hK hP (kn_w_D (kn_e cA b base) rr base) hS (fun q hq => Nat.le_trans hbs hq) ha0 hn1 rfl (Nat.le_trans (Nat.mul_le_mul hn2 hcb) (by decide)) hcells hslots hd (fun q cx H1 hK1 hP1 hD1 hS1 => ?_)
        refine kn_bound (fun hle => ?_)
        have hq : q = base + rr.length := kn_newest hP1 hD1 (by omega)
        have h5 := (hK.2 tix _ htx).2
        have h6 : va_RA s cx ty := (hK1.2 (kn_tys cA).length (cx, ty) (by rw [List.getElem?_append_right (Nat.le_refl _), Nat.sub_self]; rfl)).2
        rw [hra] at h5 h6
        have hcx : cx = cA ty := Option.some.inj (h6.symm.trans h5)
        subst hq hcx
        have hg := hk H1 locs ls ⟨rr ++ [.inl (ty, a0)], rfl, by rw [List.length_append, ← Nat.add_assoc, hz]; rfl, by rw [kn_w_app]; exact hP1, hS1⟩ hl
        exact hg
      cases t <;> first | (cases hs; done) | skip
      · cases hs
        exact key .boolean 2 (n.toNatClampNeg, .inl (fun _ => 0)) rfl rfl rfl (fun _ => rfl) (fun _ => rfl) (by decide) rfl rfl rfl rfl
      · cases hs
        exact key .int 0 (n.toNatClampNeg, .inl (fun _ => 0)) rfl rfl rfl (fun _ => rfl) (fun _ => rfl) (by decide) rfl rfl rfl rfl
      · cases hs
        exact key .long 1 (n.toNatClampNeg, .inr (.inl (fun _ => 0))) rfl rfl rfl (fun _ => rfl) (fun _ => rfl) (by decide) rfl rfl rfl rfl
  · cases hs
theorem kn_W_copy {idx : Nat} (C0 : kn_Ctx cl Tg Ns b base L xs cA D M p R s m args meth c) (hw1 : Cond.methodLink M.1.cls idx arraycopyName ∈ Tg) (hw2 : Cond.native arraycopyName ∈ Tg) (hw3 : Cond.static arraycopyName ∈ Tg) (hw4 : Cond.initialized "java/lang/System" ∈ Tg) (hfr1 : 1 ≤ M.2.2.2.2.1.1) (hlc1 : 8 + (nativeFrameWords "java/lang/System" "arraycopy" 5 + 11) ≤ M.2.2.2.2.1.2) (hnL : nL = M.2.2.1) (hd : decode M.2.1 pc = .ok (.invokestatic idx, 3))
    (hs : kn_copy (pc + 3) lo st h = some (.inl (f1, h1, k, z))) (hk : kn_Nx cl b base L xs cA D nL p l e R s m args below meth c Q f1 h1 (k0 + k) (z0 + z)) : kn_Nx cl b base L xs cA D nL p l e R s m args below meth c Q (pc, lo, st) h k0 z0 := by
  obtain ⟨hx, hb, hr, hml, hown, hts, hns, hlk, hnm, hK, hX, hbb, hbs, hfr, hlc⟩ := C0
  unfold kn_copy at hs
  split at hs
  · rename_i n dp a sp b' r
    split at hs
    · rename_i t0 n0 f t1 n1 g hb0 ha0
      cases hbq : Nat.beq (kn_tc t0) 0 && (Nat.beq (kn_tc t1) 0 && Nat.ble (kn_cat r) 8) with
      | false => rw [hbq] at hs; cases hs
      | true =>
        rw [hbq] at hs
        dsimp only [cond_true] at hs
        obtain ⟨q1, q2⟩ := Bool.and_eq_true_iff.mp hbq
        obtain ⟨q2, q3⟩ := Bool.and_eq_true_iff.mp q2
        have e0 : t0 = .int := by cases t0 <;> first | rfl | cases q1
        have e1 : t1 = .int := by cases t1 <;> first | rfl | cases q2
        subst e0 e1
        split at hs
        · cases hs
        · rename_i hn
          cases hs
          intro H locs ls hR hl
          obtain ⟨rr, rfl, hz, hP, hS⟩ := id hR
          have hb' : kn_at rr b' = some (.inl (.int, n0, .inl f)) := hb0
          have ha' : kn_at rr a = some (.inl (.int, n1, .inl g)) := ha0
          have h8 : kn_cat r ≤ 8 := Nat.le_of_ble_eq_true q3
          refine va_copyi hx hb (hml.trans (hnL ▸ hl.1).symm) hown (hts _ hw1) (hts _ hw2) (hts _ hw3) (hts _ hw4) hK hP (kn_w_D (kn_e cA b base) rr base) hS b' a 0 0 (kn_w_get hb') (kn_w_get ha') rfl rfl rfl (fun q => hn (Or.inl q)) (fun q => hn (Or.inr (Or.inl q))) (fun q => hn (Or.inr (Or.inr (Or.inl q)))) (Nat.not_lt.mp (fun q => hn (Or.inr (Or.inr (Or.inr (Or.inl q)))))) (Nat.not_lt.mp (fun q => hn (Or.inr (Or.inr (Or.inr (Or.inr q)))))) (fun _ _ => rfl) (Nat.le_trans hfr1 hfr) ?_ hd (fun H1 locs1 hP1 _ hS1 => hk H1 locs1 ls (kn_rel_set hz hP1 hS1) hl)
          rw [kn_cat_map]
          exact Nat.le_trans (Nat.add_le_add_right h8 _) (Nat.le_trans hlc1 hlc)
    · rename_i t0 n0 f t1 n1 g hb0 ha0
      cases hbq : Nat.beq (kn_tc t0) 1 && (Nat.beq (kn_tc t1) 1 && Nat.ble (kn_cat r) 8) with
      | false => rw [hbq] at hs; cases hs
      | true =>
        rw [hbq] at hs
        dsimp only [cond_true] at hs
        obtain ⟨q1, q2⟩ := Bool.and_eq_true_iff.mp hbq
        obtain ⟨q2, q3⟩ := Bool.and_eq_true_iff.mp q2
        have e0 : t0 = .long := by cases t0 <;> first | rfl | cases q1
        have e1 : t1 = .long := by cases t1 <;> first | rfl | cases q2
        subst e0 e1
        split at hs
        · cases hs
        · rename_i hn
          cases hs
          intro H locs ls hR hl
          obtain ⟨rr, rfl, hz, hP, hS⟩ := id hR
          have hb' : kn_at rr b' = some (.inl (.long, n0, .inr (.inl f))) := hb0
          have ha' : kn_at rr a = some (.inl (.long, n1, .inr (.inl g))) := ha0
          have h8 : kn_cat r ≤ 8 := Nat.le_of_ble_eq_true q3
          refine va_copyl hx hb (hml.trans (hnL ▸ hl.1).symm) hown (hts _ hw1) (hts _ hw2) (hts _ hw3) (hts _ hw4) hK hP (kn_w_D (kn_e cA b base) rr base) hS b' a 1 1 (kn_w_get hb') (kn_w_get ha') rfl rfl rfl (fun q => hn (Or.inl q)) (fun q => hn (Or.inr (Or.inl q))) (fun q => hn (Or.inr (Or.inr (Or.inl q)))) (Nat.not_lt.mp (fun q => hn (Or.inr (Or.inr (Or.inr (Or.inl q)))))) (Nat.not_lt.mp (fun q => hn (Or.inr (Or.inr (Or.inr (Or.inr q)))))) (fun _ _ => rfl) (Nat.le_trans hfr1 hfr) ?_ hd (fun H1 locs1 hP1 _ hS1 => hk H1 locs1 ls (kn_rel_set hz hP1 hS1) hl)
          rw [kn_cat_map]
          exact Nat.le_trans (Nat.add_le_add_right h8 _) (Nat.le_trans hlc1 hlc)
    · cases hs
  · cases hs
theorem kn_W_max {idx : Nat} (C0 : kn_Ctx cl Tg Ns b base L xs cA D M p R s m args meth c) (hw1 : Cond.methodLink M.1.cls idx Lib.Math.max.name ∈ Tg) (hw2 : Cond.static Lib.Math.max.name ∈ Tg) (hw3 : Cond.initialized "java/lang/Math" ∈ Tg) (hw4 : Cond.code Lib.Math.max.name Lib.Math.max.code 2 (some .int) ∈ Tg) (hfr1 : 1 ≤ M.2.2.2.2.1.1) (hlc1 : 21 ≤ M.2.2.2.2.1.2) (hnL : nL = M.2.2.1) (hd : decode M.2.1 pc = .ok (.invokestatic idx, 3))
    (hs : kn_mx (pc + 3) lo st h = some (.inl (f1, h1, k, z))) (hcells : k0 + k ≤ R.cells) (hslots : z0 + z ≤ R.slots) (hk : kn_Nx cl b base L xs cA D nL p l e R s m args below meth c Q f1 h1 (k0 + k) (z0 + z)) : kn_Nx cl b base L xs cA D nL p l e R s m args below meth c Q (pc, lo, st) h k0 z0 := by
  obtain ⟨hx, hb, hr, hml, hown, hts, hns, hlk, hnm, hK, hX, hbb, hbs, hfr, hlc⟩ := C0
  unfold kn_mx at hs
  split at hs
  · rename_i y x r
    cases hbq : Nat.ble (kn_cat r) 8 with
    | false => rw [hbq] at hs; cases hs
    | true =>
      rw [hbq] at hs
      cases hs
      intro H locs ls hR hl
      have h8 : kn_cat r ≤ 8 := Nat.le_of_ble_eq_true hbq
      refine va_mmax (rest := r.map (kn_v b base)) hx hb (hml.trans (hnL ▸ hl.1).symm) hown (hts _ hw1) (hts _ hw2) (hts _ hw3) (hts _ hw4) (Nat.le_trans hfr1 hfr) ?_ hcells hslots hd (hk H locs ls hR hl)
      rw [kn_cat_map]
      omega
  · cases hs
theorem kn_W_obj {idx : Nat} (C0 : kn_Ctx cl Tg Ns b base L xs cA D M p R s m args meth c) (hw1 : Cond.methodLink M.1.cls idx Lib.objectInit ∈ Tg) (hw2 : Cond.instanceMethod Lib.objectInit ∈ Tg) (hw3 : Cond.code Lib.objectInit ⟨#[0xb1]⟩ 1 none ∈ Tg) (hfr1 : 1 ≤ M.2.2.2.2.1.1) (hlc1 : 20 ≤ M.2.2.2.2.1.2) (hnL : nL = M.2.2.1) (hd : decode M.2.1 pc = .ok (.invokespecial idx, 3))
    (hs : kn_ci (pc + 3) [] lo st h = some (.inl (f1, h1, k, z))) (hk : kn_Nx cl b base L xs cA D nL p l e R s m args below meth c Q f1 h1 (k0 + k) (z0 + z)) : kn_Nx cl b base L xs cA D nL p l e R s m args below meth c Q (pc, lo, st) h k0 z0 := by
  obtain ⟨hx, hb, hr, hml, hown, hts, hns, hlk, hnm, hK, hX, hbb, hbs, hfr, hlc⟩ := C0
  unfold kn_ci at hs
  dsimp only at hs
  split at hs
  · rename_i a r
    cases hbq : Nat.ble (kn_cat r) 8 with
    | false => rw [hbq] at hs; cases hs
    | true =>
      rw [hbq] at hs
      cases hs
      intro H locs ls hR hl
      have h8 : kn_cat r ≤ 8 := Nat.le_of_ble_eq_true hbq
      refine W.objInit (g := F0 m pc ls (.ref (kn_ad b base a) :: r.map (kn_v b base))) hx hb hown (hts _ hw1) (hts _ hw2) (hts _ hw3) rfl (by rw [hml, ← hnL]; exact hl.1) rfl hd (Nat.le_trans hfr1 hfr) ?_ (hk H locs ls hR hl)
      rw [kn_cat_map]
      have h0 : (F0 m pc ls (.ref (kn_ad b base a) :: r.map (kn_v b base))).monitorRoom = 0 := rfl
      rw [h0]
      omega
  · cases hs
theorem kn_W_tab {dflt lo1 hi1 : Int} {offs : Array Int} {len t : Nat} {ts : List Nat} (C0 : kn_Ctx cl Tg Ns b base L xs cA D M p R s m args meth c) (hd : decode M.2.1 pc = .ok (.tableswitch dflt lo1 hi1 offs, len)) (ht : (pc : Int) + dflt = (t : Int)) (hts2 : offs.toList.map (fun o => (pc : Int) + o) = ts.map (fun x : Nat => (x : Int)))
    (hs : kn_tab lo1 hi1 (t :: ts) lo st h = some (.inl (f1, h1, k, z))) (hk : kn_Nx cl b base L xs cA D nL p l e R s m args below meth c Q f1 h1 (k0 + k) (z0 + z)) : kn_Nx cl b base L xs cA D nL p l e R s m args below meth c Q (pc, lo, st) h k0 z0 := by
  obtain ⟨hx, hb, hr, hml, hown, hts, hns, hlk, hnm, hK, hX, hbb, hbs, hfr, hlc⟩ := C0
  unfold kn_tab at hs
  split at hs
  · rename_i x r d ts' he
    obtain ⟨rfl, rfl⟩ : t = d ∧ ts = ts' := by simpa using he
    split at hs
    · rename_i ho
      cases hs
      intro H locs ls hR hl
      exact lv_tableOut hx hb hd ho ht (hk H locs ls hR hl)
    · rename_i ho
      split at hs
      · rename_i tg htg
        cases hs
        intro H locs ls hR hl
        have h5 : (offs.toList.map (fun o => (pc : Int) + o))[(x.toInt - lo1).toNat]? = some (tg : Int) := by
          rw [hts2, List.getElem?_map, ← kn_at_eq, htg]; rfl
        rw [List.getElem?_map] at h5
        cases h6 : offs.toList[(x.toInt - lo1).toNat]? with
        | none => rw [h6] at h5; cases h5
        | some off =>
          rw [h6] at h5
          have h7 : (pc : Int) + off = (tg : Int) := Option.some.inj h5
          exact lv_tableIn hx hb hd (fun q => ho (Or.inl q)) (fun q => ho (Or.inr q)) (by rw [← Array.getElem?_toList]; exact h6) h7 (hk H locs ls hR hl)
      · cases hs
  · cases hs
end KNS2
end
section
/-! what is looked up of an instruction, once for each -/
def kn_ln (e : kn_I) : Nat := match e.1 with
  | .tableswitch .. => e.2.1
  | .bipush _ => 2
  | .iload _ => 2
  | .lload _ => 2
  | .aload _ => 2
  | .istore _ => 2
  | .lstore _ => 2
  | .astore _ => 2
  | .ldc _ => 2
  | .newarray _ => 2
  | .sipush _ => 3
  | .ldc_w _ => 3
  | .ldc2_w _ => 3
  | .iinc .. => 3
  | .ifCond .. => 3
  | .if_icmp .. => 3
  | .ifnull _ => 3
  | .ifnonnull _ => 3
  | .goto _ => 3
  | .getfield _ => 3
  | .putfield _ => 3
  | .new _ => 3
  | .invokevirtual _ => 3
  | .invokespecial _ => 3
  | .invokestatic _ => 3
  | _ => 1
/-- a word stands at a place of the tables, and is one that stays -/
def kn_w1 (Ts : List Cond) (i : Nat) (w : Cond) : Bool := decide (kn_at Ts i = some w) && goodWord w
/-- a call's link, by its own name or by the nest -/
def kn_lk (Ts Ns : List Cond) (own : String) (idx : Nat) (y : MethodName) (nest i : Nat) (ho : String) : Bool := match nest with
  | 0 => kn_w1 Ts i (.methodLink own idx y)
  | _ => decide (kn_at Ns i = some (.methodLinkNest own idx y ho))
def kn_cc (M M1 : kn_M) (n nL : Nat) : Bool := Nat.ble (M1.2.2.2.2.1.1 + 1) M.2.2.2.2.1.1 && (Nat.ble (8 + (M1.2.2.1 + 11) + M1.2.2.2.2.1.2) M.2.2.2.2.1.2 && (Nat.beq nL M1.2.2.1 && (decide (M1.1.cls ≠ "java/lang/invoke/MethodHandle") && (decide (M1.1.cls ≠ "java/lang/invoke/VarHandle") && decide ((parseMethodDescriptor M1.1.desc).map (fun d => d.parameters.length) = some n)))))
def kn_ckF (cl : List vw_C) (Ts : List Cond) (own : String) (idx : Nat) (aux pl : List Nat) : Bool := match aux, pl with
  | ci :: k :: _, i :: _ => match kn_at cl ci with
    | some q => Nat.ble (k + 1) q.2.2 && kn_w1 Ts i (.fieldLink own idx (q.2.1 k).1 (q.2.1 k).2.1 (q.2.1 k).2.2.1)
    | none => false
  | _, _ => false
def kn_ckP (cl : List vw_C) (Ts : List Cond) (y : MethodName) (idx : Nat) (aux pl : List Nat) : Bool := match aux, pl with
  | ci :: k :: tc :: _, i :: _ => match kn_at cl ci with
    | some q => Nat.ble (k + 1) q.2.2 && (kn_w1 Ts i (.fieldLink y.cls idx (q.2.1 k).1 (q.2.1 k).2.1 (q.2.1 k).2.2.1) && ((match parseFieldDescriptor (q.2.1 k).2.2.1 with
      | some ty => Nat.beq (kn_tc ty) tc
      | none => false) && (!(q.2.1 k).2.2.2 || (decide (y.name = "<init>") && decide ((q.2.1 k).1 = y.cls)))))
    | none => false
  | _, _ => false
def kn_ckN (cl : List vw_C) (Ts : List Cond) (own : String) (idx : Nat) (aux pl : List Nat) : Bool := match aux, pl with
  | ci :: N :: tcs, i1 :: i2 :: i3 :: _ => match kn_at cl ci with
    | some q => Nat.beq q.2.2 N && (Nat.beq tcs.length N && ((List.range N).all (fun j => match parseFieldDescriptor (q.2.1 j).2.2.1 with
      | some ty => !(Nat.beq (kn_tc ty) 9) && Nat.beq (tcs.getD j 9) (kn_tc ty)
      | none => false) && (kn_w1 Ts i1 (.classLink own idx q.1) && (kn_w1 Ts i2 (.instantiable q.1 q.2.2) && kn_w1 Ts i3 (.initialized q.1)))))
    | none => false
  | _, _ => false
/-- aux: method, arguments, class, locals, nest; places: link, initialized, instance or static, selects -/
def kn_ckV (cl : List vw_C) (Ts Ns : List Cond) (T : List kn_M) (M : kn_M) (idx : Nat) (aux pl : List Nat) : Bool := match aux, pl with
  | j :: n :: ci :: nL :: ne :: _, i1 :: i2 :: i3 :: i4 :: _ => match kn_at T j, kn_at cl ci with
    | some M1, some q => kn_cc M M1 n nL && (decide (q.1 = M1.1.cls) && (kn_lk Ts Ns M.1.cls idx M1.1 ne i1 "KnotLaw" && (kn_w1 Ts i2 (.initialized M1.1.cls) && (kn_w1 Ts i3 (.instanceMethod M1.1) && kn_w1 Ts i4 (.selects M1.1.cls M1.1 M1.1)))))
    | _, _ => false
  | _, _ => false
def kn_ckI (cl : List vw_C) (Ts Ns : List Cond) (T : List kn_M) (M : kn_M) (idx : Nat) (aux pl : List Nat) : Bool := match aux, pl with
  | [], i1 :: i2 :: _ => kn_w1 Ts i1 (.methodLink M.1.cls idx Lib.objectInit) && (kn_w1 Ts i2 (.instanceMethod Lib.objectInit) && (Nat.ble 1 M.2.2.2.2.1.1 && Nat.ble 20 M.2.2.2.2.1.2))
  | j :: n :: _ :: nL :: ne :: _, i1 :: i2 :: i3 :: _ => match kn_at T j with
    | some M1 => kn_cc M M1 n nL && (decide (M1.1.name = "<init>") && (decide (M1.2.2.2.1 = none) && (kn_lk Ts Ns M.1.cls idx M1.1 ne i1 "KnotLaw" && (kn_w1 Ts i2 (.initialized M1.1.cls) && kn_w1 Ts i3 (.instanceMethod M1.1)))))
    | _ => false
  | _, _ => false
def kn_ckS (Ts Ns : List Cond) (T : List kn_M) (M : kn_M) (idx : Nat) (aux pl : List Nat) : Bool := match aux, pl with
  | [], i1 :: i2 :: i3 :: i4 :: _ => kn_w1 Ts i1 (.methodLink M.1.cls idx arraycopyName) && (kn_w1 Ts i2 (.native arraycopyName) && (kn_w1 Ts i3 (.static arraycopyName) && (kn_w1 Ts i4 (.initialized "java/lang/System") && (Nat.ble 1 M.2.2.2.2.1.1 && Nat.ble (8 + (nativeFrameWords "java/lang/System" "arraycopy" 5 + 11)) M.2.2.2.2.1.2))))
  | [_], i1 :: i2 :: i3 :: _ => kn_w1 Ts i1 (.methodLink M.1.cls idx Lib.Math.max.name) && (kn_w1 Ts i2 (.static Lib.Math.max.name) && (kn_w1 Ts i3 (.initialized "java/lang/Math") && (Nat.ble 1 M.2.2.2.2.1.1 && Nat.ble 21 M.2.2.2.2.1.2)))
  | j :: n :: _ :: nL :: ne :: _, i1 :: i2 :: i3 :: _ => match kn_at T j with
    | some M1 => kn_cc M M1 n nL && (kn_lk Ts Ns M.1.cls idx M1.1 ne i1 "KnotLaw" && (kn_w1 Ts i2 (.initialized M1.1.cls) && kn_w1 Ts i3 (.static M1.1)))
    | _ => false
  | _, _ => false
def kn_ok (cl : List vw_C) (Ts Ns : List Cond) (T : List kn_M) (M : kn_M) (pc : Nat) (e : kn_I) : Bool := decide (decode M.2.1 pc = .ok (e.1, kn_ln e)) && (match e.1 with
  | .ldc idx => kn_w1 Ts (kn_hd e.2.2.2) (.constant M.1.cls idx (Int32.ofNat (kn_hd e.2.2.1)))
  | .ldc_w idx => kn_w1 Ts (kn_hd e.2.2.2) (.constant M.1.cls idx (Int32.ofNat (kn_hd e.2.2.1)))
  | .ldc2_w idx => kn_w1 Ts (kn_hd e.2.2.2) (.constantLong M.1.cls idx (Int64.ofNat (kn_hd e.2.2.1)))
  | .ifCond _ off => decide ((pc : Int) + off = (kn_hd e.2.2.1 : Int))
  | .if_icmp _ off => decide ((pc : Int) + off = (kn_hd e.2.2.1 : Int))
  | .ifnull off => decide ((pc : Int) + off = (kn_hd e.2.2.1 : Int))
  | .ifnonnull off => decide ((pc : Int) + off = (kn_hd e.2.2.1 : Int))
  | .goto off => decide ((pc : Int) + off = (kn_hd e.2.2.1 : Int))
  | .tableswitch dflt _ _ offs => match e.2.2.1 with
    | d :: ts => decide ((pc : Int) + dflt = (d : Int)) && decide (offs.toList.map (fun o => (pc : Int) + o) = ts.map (fun t : Nat => (t : Int)))
    | [] => false
  | .getfield idx => kn_ckF cl Ts M.1.cls idx e.2.2.1 e.2.2.2
  | .putfield idx => kn_ckP cl Ts M.1 idx e.2.2.1 e.2.2.2
  | .new idx => kn_ckN cl Ts M.1.cls idx e.2.2.1 e.2.2.2
  | .newarray t => kn_w1 Ts (kn_hd e.2.2.2) (.arrayClass (newarray.typeOf t))
  | .invokevirtual idx => kn_ckV cl Ts Ns T M idx e.2.2.1 e.2.2.2
  | .invokespecial idx => kn_ckI cl Ts Ns T M idx e.2.2.1 e.2.2.2
  | .invokestatic idx => kn_ckS Ts Ns T M idx e.2.2.1 e.2.2.2
  | _ => true)
/-- all of a method -/
def kn_okM (cl : List vw_C) (Ts Ns : List Cond) (T : List kn_M) (M : kn_M) : Bool := M.2.2.2.2.2.zipIdx.all (fun x => x.1.zipIdx.all (fun y => match y.1 with
  | some e => kn_ok cl Ts Ns T M (16 * x.2 + y.2) e
  | none => true))
theorem kn_okM_at {cl : List vw_C} {Ts Ns : List Cond} {T : List kn_M} {M : kn_M} (h : kn_okM cl Ts Ns T M = true) {pc : Nat} {e : kn_I} (he : kn_code M pc = some e) : kn_ok cl Ts Ns T M pc e = true := by
  unfold kn_code at he
  split at he
  · rename_i ch hch
    split at he
    · rename_i e' he'
      subst he
      rw [kn_at_eq] at hch he'
      have h1 := List.all_eq_true.mp h (ch, pc / 16) (by
        rw [List.mem_zipIdx_iff_getElem?]; exact hch)
      have h2 := List.all_eq_true.mp h1 (some e, pc % 16) (by
        rw [List.mem_zipIdx_iff_getElem?]; exact he')
      have h3 : 16 * (pc / 16) + pc % 16 = pc := Nat.div_add_mod pc 16
      simp only [h3] at h2
      exact h2
    · cases he
  · cases he
/-- what holds of the tables, whatever the state -/
def kn_St (cl : List vw_C) (Ts Tg Ns : List Cond) (T : List kn_M) : Prop :=
  (∀ w, w ∈ Ts → goodWord w = true → w ∈ Tg) ∧ (∀ (j : Nat) (M1 : kn_M), kn_at T j = some M1 → Cond.code M1.1 M1.2.1 M1.2.2.1 M1.2.2.2.1 ∈ Tg ∧ plainName M1.1.cls = true ∧ kn_okM cl Ts Ns T M1 = true) ∧ (Cond.code Lib.objectInit ⟨#[0xb1]⟩ 1 none ∈ Tg ∧ Cond.code Lib.Math.max.name Lib.Math.max.code 2 (some .int) ∈ Tg) ∧
  (∀ w ∈ Tg, (w.onTables && w.keeps) = true ∨ ∃ ty, w = .arrayClass ty) ∧ (∀ (ci : Nat) (q : vw_C), cl[ci]? = some q → (∀ w ∈ u_ws q.1 q.2.1 q.2.2, w ∈ Tg) ∧ (∃ ty0 : Nat → FieldType, ∀ k, k < q.2.2 → parseFieldDescriptor (q.2.1 k).2.2.1 = some (ty0 k)) ∧ (∀ a, a < q.2.2 → ∀ b, b < q.2.2 → a ≠ b → (q.2.1 a).2.1 ≠ (q.2.1 b).2.1)) ∧
  (∀ w ∈ Ns, ∃ (a : String) (i : Nat) (x : MethodName) (h : String), w = .methodLinkNest a i x h)
theorem kn_w1_in {cl : List vw_C} {Ts Tg Ns : List Cond} {T : List kn_M} (S : kn_St cl Ts Tg Ns T) {i : Nat} {w : Cond} (h : kn_w1 Ts i w = true) : w ∈ Tg := by
  obtain ⟨h1, h2⟩ := Bool.and_eq_true_iff.mp h
  have h3 := of_decide_eq_true h1
  rw [kn_at_eq] at h3
  exact S.1 w (List.mem_of_getElem? h3) h2
/-- of a long method, by sixteens of pcs -/
def kn_okC (cl : List vw_C) (Ts Ns : List Cond) (T : List kn_M) (M : kn_M) (i : Nat) : Bool := match kn_at M.2.2.2.2.2 i with
  | some ch => ch.zipIdx.all (fun y => match y.1 with
    | some e => kn_ok cl Ts Ns T M (16 * i + y.2) e
    | none => true)
  | none => true
theorem kn_okM_of {cl : List vw_C} {Ts Ns : List Cond} {T : List kn_M} {M : kn_M} (n : Nat) (hl : M.2.2.2.2.2.length ≤ n) (h : ∀ i, i < n → kn_okC cl Ts Ns T M i = true) : kn_okM cl Ts Ns T M = true := by
  refine List.all_eq_true.mpr (fun x hx => ?_)
  obtain ⟨ch, i⟩ := x
  have hi : M.2.2.2.2.2[i]? = some ch := List.mem_zipIdx_iff_getElem?.mp hx
  have hlt : i < M.2.2.2.2.2.length := (List.getElem?_eq_some_iff.mp hi).1
  have h1 := h i (by omega)
  unfold kn_okC at h1
  rw [kn_at_eq, hi] at h1
  exact h1
end
section
section KNS3
variable {p : Program} {l : Launch} {e : Env} {R : Room} {s : State} {m : MethodId} {args : Array Value} {below : List Frame} {meth : Method} {c : Code} {Q : State → Prop} {k0 z0 : Nat}
variable {cl : List vw_C} {Ts Tg Ns : List Cond} {T : List kn_M} {b base L : Nat} {xs : Nat → Int32} {cA : FieldType → ClassId} {D : va_G} {M : kn_M} {pc : Nat} {lo : List (Nat × Value)} {st : List Value} {h : kn_H}
variable {f1 : kn_F} {h1 : kn_H} {k z : Nat}
/-- a step that stays in the method -/
theorem kn_go (S : kn_St cl Ts Tg Ns T) (C0 : kn_Ctx cl Tg Ns b base L xs cA D M p R s m args meth c) {i : kn_I} (hok : kn_ok cl Ts Ns T M pc i = true) (hs : kn_step M.2.2.1 M.2.2.2.1 i pc lo st h = some (.inl (f1, h1, k, z))) (hcells : k0 + k ≤ R.cells) (hslots : z0 + z ≤ R.slots)
    (hk : kn_Nx cl b base L xs cA D M.2.2.1 p l e R s m args below meth c Q f1 h1 (k0 + k) (z0 + z)) : kn_Nx cl b base L xs cA D M.2.2.1 p l e R s m args below meth c Q (pc, lo, st) h k0 z0 := by
  obtain ⟨ins, len, aux, pl⟩ := i
  obtain ⟨hd, ho⟩ := Bool.and_eq_true_iff.mp hok
  clear hok
  replace hd := of_decide_eq_true hd
  have hx := C0.1
  have hb := C0.2.1
  have hown := C0.2.2.2.2.1
  have hts := C0.2.2.2.2.2.1
  cases ins
  case iconst n => exact kn_W_to (fun hW => lv_iconst hx hb hd rfl hW) hs hk
  case bipush n => exact kn_W_to (fun hW => lv_bipush hx hb hd rfl hW) hs hk
  case sipush n => exact kn_W_to (fun hW => lv_sipush hx hb hd rfl hW) hs hk
  case lconst n => exact kn_W_to (fun hW => lv_lconst hx hb hd rfl hW) hs hk
  case ldc n => exact kn_W_to (fun hW => lv_ldc hx hb hown (hts _ (kn_w1_in S ho)) hd hW) hs hk
  case ldc_w n => exact kn_W_to (fun hW => lv_ldcw hx hb hown (hts _ (kn_w1_in S ho)) hd hW) hs hk
  case ldc2_w n => exact kn_W_to (fun hW => lv_ldc2 hx hb hown (hts _ (kn_w1_in S ho)) hd hW) hs hk
  case aconst_null => exact kn_W_to (fun hW => lv_null hx hb hd hW) hs hk
  case iload_n n => exact kn_W_ldi (fun hl hW => lv_iload_n hx hb hd rfl hl hW) hs hk
  case iload n => exact kn_W_ldi (fun hl hW => lv_iload hx hb hd hl hW) hs hk
  case lload_n n => exact kn_W_ldl (fun hl hW => lv_lload_n hx hb hd rfl hl hW) hs hk
  case lload n => exact kn_W_ldl (fun hl hW => lv_lload hx hb hd hl hW) hs hk
  case aload_n n => exact kn_W_lda (fun hl hW => lv_aload_n hx hb hd rfl hl hW) (fun hl hW => lv_aload_nN hx hb hd rfl hl hW) hs hk
  case aload n => exact kn_W_lda (fun hl hW => lv_aload hx hb hd hl hW) (fun hl hW => lv_aloadN hx hb hd hl hW) hs hk
  case istore_n n => exact kn_W_sti (fun hl hi hW => lv_istore_n hx hb hd rfl hl hi rfl hW) hs hk
  case istore n => exact kn_W_sti (fun hl hi hW => lv_istore hx hb hd hl hi rfl hW) hs hk
  case lstore_n n => exact kn_W_stl (fun hl hi hW => lv_lstore_n hx hb hd rfl hl hi rfl hW) hs hk
  case lstore n => exact kn_W_stl (fun hl hi hW => lv_lstore hx hb hd hl hi rfl hW) hs hk
  case astore_n n => exact kn_W_sta (fun hl hi hW => lv_astore_n hx hb hd rfl hl hi rfl hW) (fun hl hi hW => lv_astore_nN hx hb hd rfl hl hi rfl hW) hs hk
  case astore n => exact kn_W_sta (fun hl hi hW => lv_astore hx hb hd hl hi rfl hW) (fun hl hi hW => lv_astoreN hx hb hd hl hi rfl hW) hs hk
  case iinc i n => exact kn_W_inc (fun hl hj hi hW => lv_iinc hx hb hd hl hj rfl hi rfl hW) hs hk
  case iadd => exact kn_W_ii (fun hW => lv_iadd hx hb hd hW) hs hk
  case isub => exact kn_W_ii (fun hW => lv_isub hx hb hd hW) hs hk
  case imul => exact kn_W_ii (fun hW => lv_imul hx hb hd hW) hs hk
  case iand => exact kn_W_ii (fun hW => lv_iand hx hb hd hW) hs hk
  case ior => exact kn_W_ii (fun hW => lv_ior hx hb hd hW) hs hk
  case ixor => exact kn_W_ii (fun hW => lv_ixor hx hb hd hW) hs hk
  case ishl => exact kn_W_ii (fun hW => lv_ishl hx hb hd hW) hs hk
  case ishr => exact kn_W_ii (fun hW => lv_ishr hx hb hd hW) hs hk
  case iushr => exact kn_W_ii (fun hW => lv_iushr hx hb hd rfl hW) hs hk
  case idiv => exact kn_W_id (fun hn hW => lv_idiv hx hb hd hn hW) hs hk
  case irem => exact kn_W_id (fun hn hW => lv_irem hx hb hd hn hW) hs hk
  case ineg => exact kn_W_1i (fun hW => lv_ineg hx hb hd hW) hs hk
  case i2l => exact kn_W_1i (fun hW => lv_i2l hx hb hd rfl hW) hs hk
  case i2b => exact kn_W_1i (fun hW => lv_i2b hx hb hd rfl hW) hs hk
  case i2s => exact kn_W_1i (fun hW => lv_i2s hx hb hd rfl hW) hs hk
  case i2c => exact kn_W_1i (fun hW => lv_i2c hx hb hd rfl hW) hs hk
  case l2i => exact kn_W_1l (fun hW => lv_l2i hx hb hd rfl hW) hs hk
  case lneg => exact kn_W_1l (fun hW => lv_lneg hx hb hd hW) hs hk
  case ladd => exact kn_W_ll (fun hW => lv_ladd hx hb hd hW) hs hk
  case lsub => exact kn_W_ll (fun hW => lv_lsub hx hb hd hW) hs hk
  case lmul => exact kn_W_ll (fun hW => lv_lmul hx hb hd hW) hs hk
  case land => exact kn_W_ll (fun hW => lv_land hx hb hd hW) hs hk
  case lor => exact kn_W_ll (fun hW => lv_lor hx hb hd hW) hs hk
  case lxor => exact kn_W_ll (fun hW => lv_lxor hx hb hd hW) hs hk
  case ldiv => exact kn_W_ldv (fun hn hW => lv_ldiv hx hb hd hn hW) hs hk
  case lrem => exact kn_W_ldv (fun hn hW => lv_lrem hx hb hd hn hW) hs hk
  case lshl => exact kn_W_li (fun hW => lv_lshl hx hb hd rfl hW) hs hk
  case lshr => exact kn_W_li (fun hW => lv_lshr hx hb hd rfl hW) hs hk
  case lushr => exact kn_W_li (fun hW => lv_lushr hx hb hd rfl hW) hs hk
  case lcmp => exact kn_W_lc (fun hW => W.lcmp hx hb hd hW) hs hk
  case dup => exact kn_W_dup (fun h1 hW => lv_dup hx hb hd h1 hW) hs hk
  case pop => exact kn_W_pop (fun h1 hW => lv_pop hx hb hd h1 hW) hs hk
  case dup_x1 => exact kn_W_dx1 (fun h1 h2 hW => lv_dup_x1 hx hb hd h1 h2 hW) hs hk
  case dup_x2 => exact kn_W_dx2 (fun h1 h2 h3 hW => lv_dup_x2 hx hb hd h1 h2 h3 hW) hs hk
  case dup2 => exact kn_W_d2 (fun h1 h2 hW => lv_dup2_11 hx hb hd h1 h2 hW) hs hk
  case ifCond cnd off => exact kn_W_if hx hb hd (of_decide_eq_true ho) rfl hs hk
  case if_icmp cnd off => exact kn_W_br hx hb hd (of_decide_eq_true ho) rfl hs hk
  case ifnull off => exact kn_W_null hx hb hd (of_decide_eq_true ho) hs hk
  case ifnonnull off => exact kn_W_nonnull hx hb hd (of_decide_eq_true ho) hs hk
  case goto off => exact kn_W_to (fun hW => lv_goto hx hb hd (of_decide_eq_true ho) hW) hs hk
  case tableswitch dflt lo1 hi1 offs =>
    cases aux with
    | nil => cases ho
    | cons d ts =>
      obtain ⟨g1, g2⟩ := Bool.and_eq_true_iff.mp ho
      exact kn_W_tab C0 hd (of_decide_eq_true g1) (of_decide_eq_true g2) hs hk
  case iaload => exact kn_W_ald C0 hd hs hk
  case baload => exact kn_W_bald C0 hd hs hk
  case laload => exact kn_W_lald C0 hd hs hk
  case iastore => exact kn_W_ast C0 hd hs hk
  case bastore => exact kn_W_bast C0 hd hs hk
  case lastore => exact kn_W_last C0 hd hs hk
  case arraylength => exact kn_W_len C0 hd hs hk
  case newarray t => exact kn_W_newa C0 (kn_w1_in S ho) hd hs hcells hslots hk
  case getfield idx =>
    replace ho : kn_ckF cl Ts M.1.cls idx aux pl = true := ho
    unfold kn_ckF at ho
    split at ho
    · rename_i ci fk r1 i1 r2
      split at ho
      · rename_i q hq
        obtain ⟨g1, g2⟩ := Bool.and_eq_true_iff.mp ho
        rw [kn_at_eq] at hq
        exact kn_W_get C0 hq (S.2.2.2.2.1 ci q hq).1 (Nat.le_of_ble_eq_true g1) (Or.inl (kn_w1_in S g2)) hd hs hk
      · cases ho
    · cases ho
  case putfield idx =>
    replace ho : kn_ckP cl Ts M.1 idx aux pl = true := ho
    unfold kn_ckP at ho
    split at ho
    · rename_i ci fk tc r1 i1 r2
      split at ho
      · rename_i q hq
        obtain ⟨g1, g2⟩ := Bool.and_eq_true_iff.mp ho
        obtain ⟨g2, g3⟩ := Bool.and_eq_true_iff.mp g2
        obtain ⟨g3, g4⟩ := Bool.and_eq_true_iff.mp g3
        rw [kn_at_eq] at hq
        obtain ⟨c1, ⟨ty0, c2⟩, c3⟩ := S.2.2.2.2.1 ci q hq
        split at g3
        · rename_i ty hty
          refine kn_W_put C0 hq c1 (Nat.le_of_ble_eq_true g1) ty0 c2 c3 hty (Nat.eq_of_beq_eq_true g3) ?_ hd hs hk
          cases hf : (q.2.1 fk).2.2.2 with
          | false => exact Or.inl ⟨rfl, Or.inl (kn_w1_in S g2)⟩
          | true =>
            rw [hf] at g4
            obtain ⟨g5, g6⟩ := Bool.and_eq_true_iff.mp (show (decide (M.1.name = "<init>") && decide ((q.2.1 fk).1 = M.1.cls)) = true from g4)
            exact Or.inr ⟨rfl, of_decide_eq_true g5, of_decide_eq_true g6, kn_w1_in S g2⟩
        · cases g3
      · cases ho
    · cases ho
  case new idx =>
    replace ho : kn_ckN cl Ts M.1.cls idx aux pl = true := ho
    unfold kn_ckN at ho
    split at ho
    · rename_i ci N tcs i1 i2 i3 r2
      split at ho
      · rename_i q hq
        obtain ⟨g1, g2⟩ := Bool.and_eq_true_iff.mp ho
        obtain ⟨g2, g3⟩ := Bool.and_eq_true_iff.mp g2
        obtain ⟨g3, g4⟩ := Bool.and_eq_true_iff.mp g3
        obtain ⟨g4, g5⟩ := Bool.and_eq_true_iff.mp g4
        obtain ⟨g5, g6⟩ := Bool.and_eq_true_iff.mp g5
        rw [kn_at_eq] at hq
        obtain ⟨c1, ⟨ty0, c2⟩, c3⟩ := S.2.2.2.2.1 ci q hq
        have hN : q.2.2 = N := Nat.eq_of_beq_eq_true g1
        subst hN
        refine kn_W_new C0 hq c1 ty0 c2 (Nat.eq_of_beq_eq_true g2) (fun j hj => ?_) (kn_w1_in S g4) (kn_w1_in S g5) (kn_w1_in S g6) hd hs hcells hslots hk
        have h9 := List.all_eq_true.mp g3 j (List.mem_range.mpr hj)
        rw [c2 j hj] at h9
        obtain ⟨h8, h9⟩ := Bool.and_eq_true_iff.mp h9
        refine ⟨fun q => ?_, Nat.eq_of_beq_eq_true h9⟩
        rw [q] at h8
        cases h8
      · cases ho
    · cases ho
  case invokespecial idx =>
    cases aux with
    | cons a r =>
      exfalso
      replace hs : kn_cv (pc + 3) (a :: r) lo st h = some (.inl (f1, h1, k, z)) := hs
      unfold kn_cv at hs
      split at hs
      · split at hs
        · split at hs
          · rename_i nL _ _ _ _ _ _ _ _ _ _ _ _
            revert hs
            generalize (Nat.beq _ _ && _) = bb
            cases bb <;> intro hs <;> cases hs
          · cases hs
        · cases hs
      · cases hs
    | nil =>
      replace ho : kn_ckI cl Ts Ns T M idx [] pl = true := ho
      unfold kn_ckI at ho
      split at ho
      · rename_i i1 i2 r2
        obtain ⟨g1, g2⟩ := Bool.and_eq_true_iff.mp ho
        obtain ⟨g2, g3⟩ := Bool.and_eq_true_iff.mp g2
        obtain ⟨g3, g4⟩ := Bool.and_eq_true_iff.mp g3
        exact kn_W_obj C0 (kn_w1_in S g1) (kn_w1_in S g2) S.2.2.1.1 (Nat.le_of_ble_eq_true g3) (Nat.le_of_ble_eq_true g4) rfl hd hs hk
      · rename_i he
        cases he
      · cases ho
  case invokestatic idx =>
    cases aux with
    | cons a r =>
      cases r with
      | nil =>
        replace ho : kn_ckS Ts Ns T M idx [a] pl = true := ho
        unfold kn_ckS at ho
        split at ho
        · rename_i he
          cases he
        · rename_i i1 i2 i3 r2 _
          obtain ⟨g1, g2⟩ := Bool.and_eq_true_iff.mp ho
          obtain ⟨g2, g3⟩ := Bool.and_eq_true_iff.mp g2
          obtain ⟨g3, g4⟩ := Bool.and_eq_true_iff.mp g3
          obtain ⟨g4, g5⟩ := Bool.and_eq_true_iff.mp g4
          exact kn_W_max C0 (kn_w1_in S g1) (kn_w1_in S g2) (kn_w1_in S g3) S.2.2.1.2 (Nat.le_of_ble_eq_true g4) (Nat.le_of_ble_eq_true g5) rfl hd hs hcells hslots hk
        · rename_i he
          cases he
        · cases ho
      | cons a2 r =>
        exfalso
        replace hs : kn_cs (pc + 3) (a :: a2 :: r) lo st = some (.inl (f1, h1, k, z)) := hs
        unfold kn_cs at hs
        split at hs
        · revert hs
          generalize (Nat.beq _ _ && _) = bb
          cases bb <;> intro hs <;> cases hs
        · cases hs
    | nil =>
      replace ho : kn_ckS Ts Ns T M idx [] pl = true := ho
      unfold kn_ckS at ho
      split at ho
      · rename_i i1 i2 i3 i4 r2
        obtain ⟨g1, g2⟩ := Bool.and_eq_true_iff.mp ho
        obtain ⟨g2, g3⟩ := Bool.and_eq_true_iff.mp g2
        obtain ⟨g3, g4⟩ := Bool.and_eq_true_iff.mp g3
        obtain ⟨g4, g5⟩ := Bool.and_eq_true_iff.mp g4
        obtain ⟨g5, g6⟩ := Bool.and_eq_true_iff.mp g5
        exact kn_W_copy C0 (kn_w1_in S g1) (kn_w1_in S g2) (kn_w1_in S g3) (kn_w1_in S g4) (Nat.le_of_ble_eq_true g5) (Nat.le_of_ble_eq_true g6) rfl hd hs hk
      · rename_i he
        cases he
      · rename_i he
        cases he
      · cases ho
  case invokevirtual idx =>
    exfalso
    replace hs : kn_cv (pc + 3) aux lo st h = some (.inl (f1, h1, k, z)) := hs
    unfold kn_cv at hs
    split at hs
    · split at hs
      · split at hs
        · revert hs
          generalize (Nat.beq _ _ && _) = bb
          cases bb <;> intro hs <;> cases hs
        · cases hs
      · cases hs
    · cases hs
  case ireturn =>
    exfalso
    replace hs : kn_ri M.2.2.2.1 st = some (.inl (f1, h1, k, z)) := hs
    unfold kn_ri at hs
    split at hs
    · cases hs
    · revert hs
      generalize (_ || _) = bb
      cases bb <;> intro hs <;> cases hs
    · cases hs
  case lreturn =>
    exfalso
    replace hs : kn_rl M.2.2.2.1 st = some (.inl (f1, h1, k, z)) := hs
    unfold kn_rl at hs
    split at hs <;> cases hs
  case return_ =>
    exfalso
    replace hs : kn_rv M.2.2.2.1 st = some (.inl (f1, h1, k, z)) := hs
    unfold kn_rv at hs
    split at hs <;> cases hs
  all_goals (exfalso; cases hs)
end KNS3
end
section
/-- how a method ends at a pc -/
def kn_End (M : kn_M) (v : Option Value) (pc : Nat) : Prop :=
  (∃ x : Int32, v = some (.int x) ∧ decode M.2.1 pc = .ok (.ireturn, 1) ∧ (M.2.2.2.1 = some .int ∨ (M.2.2.2.1 = some .boolean ∧ (x = 0 ∨ x = 1)))) ∨
  (∃ x : Int64, v = some (.long x) ∧ decode M.2.1 pc = .ok (.lreturn, 1) ∧ M.2.2.2.1 = some .long) ∨ (v = none ∧ decode M.2.1 pc = .ok (.return_, 1) ∧ M.2.2.2.1 = none)
theorem kn_ri_inv {ret : Option FieldType} {st : List Value} {v : Option Value} (hs : kn_ri ret st = some (.inr (.inr v))) : ∃ x : Int32, v = some (.int x) ∧ st = [.int x] ∧ (ret = some .int ∨ (ret = some .boolean ∧ (x = 0 ∨ x = 1))) := by
  unfold kn_ri at hs
  split at hs
  · cases hs
    exact ⟨_, rfl, rfl, Or.inl rfl⟩
  · rename_i x
    cases hb : (x == 0 || x == 1) with
    | false => rw [hb] at hs; cases hs
    | true =>
      rw [hb] at hs
      cases hs
      refine ⟨_, rfl, rfl, Or.inr ⟨rfl, ?_⟩⟩
      rcases Bool.or_eq_true_iff.mp hb with h | h
      · exact Or.inl (eq_of_beq h)
      · exact Or.inr (eq_of_beq h)
  · cases hs
theorem kn_cv_inv {pc : Nat} {aux : List Nat} {lo : List (Nat × Value)} {st : List Value} {h : kn_H} {j : Nat} {as : List Value} {f1 : kn_F} (hs : kn_cv pc aux lo st h = some (.inr (.inl (j, as, f1)))) :
    ∃ (n ci nL : Nat) (tl : List Nat) (a : Nat) (r fs : List Value), aux = j :: n :: ci :: nL :: tl ∧ st.drop n = .ref a :: r ∧ kn_at h a = some (.inr (ci, fs)) ∧ (st.take n).length = n ∧ kn_cat r ≤ 8 ∧ (lg_sl as).length ≤ nL ∧ as = .ref a :: (st.take n).reverse ∧ f1 = (pc, lo, r) := by
  unfold kn_cv at hs
  split at hs
  · rename_i j' n ci nL tl
    split at hs
    · rename_i a r hdr
      split at hs
      · rename_i c' fs hat
        cases hb : Nat.beq c' ci && (Nat.beq (st.take n).length n && (Nat.ble (kn_cat r) 8 && Nat.ble (lg_sl (.ref a :: (st.take n).reverse)).length nL)) with
        | false => rw [hb] at hs; cases hs
        | true =>
          rw [hb] at hs
          obtain ⟨q1, q2⟩ := Bool.and_eq_true_iff.mp hb
          obtain ⟨q2, q3⟩ := Bool.and_eq_true_iff.mp q2
          obtain ⟨q3, q4⟩ := Bool.and_eq_true_iff.mp q3
          have e1 : c' = ci := Nat.eq_of_beq_eq_true q1
          subst e1
          cases hs
          exact ⟨n, c', nL, tl, a, r, fs, rfl, hdr, hat, Nat.eq_of_beq_eq_true q2, Nat.le_of_ble_eq_true q3, Nat.le_of_ble_eq_true q4, rfl, rfl⟩
      · cases hs
    · cases hs
  · cases hs
theorem kn_cs_inv {pc : Nat} {aux : List Nat} {lo : List (Nat × Value)} {st : List Value} {j : Nat} {as : List Value} {f1 : kn_F} (hs : kn_cs pc aux lo st = some (.inr (.inl (j, as, f1)))) :
    ∃ (n ci nL : Nat) (tl : List Nat), aux = j :: n :: ci :: nL :: tl ∧ (st.take n).length = n ∧ kn_cat (st.drop n) ≤ 8 ∧ (lg_sl as).length ≤ nL ∧ as = (st.take n).reverse ∧ f1 = (pc, lo, st.drop n) := by
  unfold kn_cs at hs
  split at hs
  · rename_i j' n ci nL tl
    cases hb : Nat.beq (st.take n).length n && (Nat.ble (kn_cat (st.drop n)) 8 && Nat.ble (lg_sl (st.take n).reverse).length nL) with
    | false => rw [hb] at hs; cases hs
    | true =>
      rw [hb] at hs
      obtain ⟨q2, q3⟩ := Bool.and_eq_true_iff.mp hb
      obtain ⟨q3, q4⟩ := Bool.and_eq_true_iff.mp q3
      cases hs
      exact ⟨n, ci, nL, tl, rfl, Nat.eq_of_beq_eq_true q2, Nat.le_of_ble_eq_true q3, Nat.le_of_ble_eq_true q4, rfl, rfl⟩
  · cases hs
/-- a step is on, a call or an end by its instruction -/
theorem kn_step_end {nL : Nat} {ret : Option FieldType} {i : kn_I} {pc : Nat} {lo : List (Nat × Value)} {st : List Value} {h : kn_H} {v : Option Value} (hs : kn_step nL ret i pc lo st h = some (.inr (.inr v))) : i.1 = .ireturn ∨ i.1 = .lreturn ∨ i.1 = .return_ := by
  obtain ⟨ins, len, aux, pl⟩ := i
  cases ins
  case ireturn => exact Or.inl rfl
  case lreturn => exact Or.inr (Or.inl rfl)
  case return_ => exact Or.inr (Or.inr rfl)
  all_goals first | (exfalso; cases hs; done) | skip
  all_goals (exfalso; simp only [kn_step, kn_ldi, kn_ldl, kn_lda, kn_sti, kn_stl, kn_sta, kn_inc, kn_ii, kn_id, kn_ll, kn_ldv, kn_li, kn_lc, kn_1i, kn_1l, kn_dup, kn_pop, kn_dx1, kn_dx2, kn_d2, kn_if, kn_cmp, kn_br, kn_nul, kn_tab, kn_get, kn_put, kn_ald, kn_lald, kn_ast, kn_bast, kn_last, kn_len, kn_new, kn_newa, kn_cv, kn_cs, kn_ci, kn_cst, kn_copy, kn_mx, kn_to, cond_eq_ite] at hs; (repeat' split at hs) <;> simp at hs)
theorem kn_step_call {nL : Nat} {ret : Option FieldType} {i : kn_I} {pc : Nat} {lo : List (Nat × Value)} {st : List Value} {h : kn_H} {q : Nat × List Value × kn_F} (hs : kn_step nL ret i pc lo st h = some (.inr (.inl q))) : (∃ n, i.1 = .invokevirtual n) ∨ (∃ n, i.1 = .invokespecial n) ∨ (∃ n, i.1 = .invokestatic n) := by
  obtain ⟨ins, len, aux, pl⟩ := i
  cases ins
  case invokevirtual n => exact Or.inl ⟨n, rfl⟩
  case invokespecial n => exact Or.inr (Or.inl ⟨n, rfl⟩)
  case invokestatic n => exact Or.inr (Or.inr ⟨n, rfl⟩)
  all_goals first | (exfalso; cases hs; done) | skip
  all_goals (exfalso; simp only [kn_step, kn_ldi, kn_ldl, kn_lda, kn_sti, kn_stl, kn_sta, kn_inc, kn_ii, kn_id, kn_ll, kn_ldv, kn_li, kn_lc, kn_1i, kn_1l, kn_dup, kn_pop, kn_dx1, kn_dx2, kn_d2, kn_if, kn_cmp, kn_br, kn_nul, kn_tab, kn_get, kn_put, kn_ald, kn_lald, kn_ast, kn_bast, kn_last, kn_len, kn_new, kn_newa, kn_ri, kn_rl, kn_rv, kn_to, cond_eq_ite] at hs; (repeat' split at hs) <;> simp at hs)
section KNS4
variable {p : Program} {l : Launch} {e : Env} {R : Room} {s : State} {m : MethodId} {args : Array Value} {below : List Frame} {meth : Method} {c : Code} {Q : State → Prop} {k0 z0 : Nat}
variable {cl : List vw_C} {Ts Tg Ns : List Cond} {T : List kn_M} {b base L : Nat} {xs : Nat → Int32} {cA : FieldType → ClassId} {D : va_G} {M : kn_M} {pc : Nat} {lo : List (Nat × Value)} {st : List Value} {h : kn_H}
/-- the heap is just as large as the cells say -/
theorem kn_exact {rr : kn_H} {H : Heap} {locs : List Loc} {E : kn_C → va_E} {k : Nat} (hz : s.heap.size + k = base + rr.length) (hP : va_P D cl (kn_w E base rr) H) (hS : va_S (fun q => base ≤ q) s.heap H locs) (hbs : base ≤ s.heap.size) (hle : H.size ≤ s.heap.size + k) : H.size = base + rr.length := by
  have h1 : s.heap.size ≤ H.size := hS.1
  rcases Nat.eq_zero_or_pos rr.length with h0 | h0
  · omega
  · have hs : ∃ y, kn_at rr (rr.length - 1) = some y := by
      rw [kn_at_eq]
      exact ⟨_, List.getElem?_eq_getElem (by omega)⟩
    obtain ⟨y, hy⟩ := hs
    have h2 : base + (rr.length - 1) < H.size := (hP _ _ (kn_w_get hy)).lt
    omega
/-- a method's start, and its end -/
def kn_Pc (cl : List vw_C) (Ns : List Cond) (b base L : Nat) (xs : Nat → Int32) (cA : FieldType → ClassId) (D : va_G) (as : List Value) (h : kn_H) : Array Value → State → Prop := fun a U =>
  a = (as.map (kn_v b base)).toArray ∧ (∀ w ∈ Ns, va_Nw w U) ∧ va_K D cl (kn_tys cA) U ∧ va_X b L xs U U.heap ∧ ∃ rr : kn_H, h = .inl (.int, L, .inl xs) :: rr ∧ U.heap.size = base + rr.length ∧ va_P D cl (kn_w (kn_e cA b base) base rr) U.heap
def kn_Qc (cl : List vw_C) (b base L : Nat) (xs : Nat → Int32) (cA : FieldType → ClassId) (D : va_G) (v : Option Value) (h1 : kn_H) (k : Nat) : Array Value → State → Outcome → State → Prop := fun _ st oc t =>
  oc = .returned (v.map (kn_v b base)) ∧ va_F (fun q => base ≤ q) st t ∧ ∃ rr : kn_H, h1 = .inl (.int, L, .inl xs) :: rr ∧ st.heap.size + k = base + rr.length ∧ va_P D cl (kn_w (kn_e cA b base) base rr) t.heap
/-- a run of the machine, said of the JVM -/
def kn_Snd (cl : List vw_C) (Tg Ns : List Cond) (b base L : Nat) (xs : Nat → Int32) (cA : FieldType → ClassId) (D : va_G) (l : Launch) (M : kn_M) (f : kn_F) (h : kn_H) (r : Option Value × kn_H × Nat × Nat) : Prop :=
  ∀ {p : Program} {e : Env} {R : Room} {s : State} {m : MethodId} {args : Array Value} {below : List Frame} {meth : Method} {c : Code} {Q : State → Prop} {k0 z0 : Nat}, kn_Ctx cl Tg Ns b base L xs cA D M p R s m args meth c → k0 + r.2.2.1 ≤ R.cells → z0 + r.2.2.2 ≤ R.slots →
    (∀ (H : Heap) (locs : List Loc) (ls : Array Slot) (pc : Nat), kn_Rel cl b base L xs cA D s H locs (k0 + r.2.2.1) r.2.1 → kn_End M r.1 pc → W p l e R s m args below meth c H locs (k0 + r.2.2.1) (z0 + r.2.2.2) Q (F0 m pc ls (r.1.map (kn_v b base)).toList)) →
    kn_Nx cl b base L xs cA D M.2.2.1 p l e R s m args below meth c Q f h k0 z0
theorem kn_met (S : kn_St cl Ts Tg Ns T) (l : Launch) (hbb : b < base) {M1 : kn_M} {j : Nat} (hj : kn_at T j = some M1) {as : List Value} {r : Option Value × kn_H × Nat × Nat} (IH : kn_Snd cl Tg Ns b base L xs cA D l M1 (0, lv_args 0 as, []) h r) (hlen : (lg_sl as).length ≤ M1.2.2.1) :
    Met l M1.1 (Cond.code M1.1 M1.2.1 M1.2.2.1 M1.2.2.2.1 :: Tg) ({ frames := M1.2.2.2.2.1.1, cells := r.2.2.1, slots := r.2.2.2, locals := M1.2.2.2.2.1.2 }) (kn_Pc cl Ns b base L xs cA D as h) (kn_Qc cl b base L xs cA D r.1 r.2.1 r.2.2.1) r.2.2.1 r.2.2.2 (fun q => base ≤ q) := by
  obtain ⟨-, hpl, -⟩ := S.2.1 j M1 hj
  refine Met.ofW (cc := M1.2.1) (maxL := M1.2.2.1) (ret := M1.2.2.2.1) hpl rfl ?_
  intro p e s m args below meth c s₁ B hml hv
  obtain ⟨rfl, hns, hK, hX, rr, rfl, hz, hP⟩ := hv
  have hts := atoms_spec (ws := Cond.code M1.1 M1.2.1 M1.2.2.1 M1.2.2.2.1 :: Tg) B.pre
  have hlk := B.notSynchronized
  have C1 : kn_Ctx cl Tg Ns b base L xs cA D M1 p (headSpec (Cond.code M1.1 M1.2.1 M1.2.2.1 M1.2.2.2.1 :: Tg) ({ frames := M1.2.2.2.2.1.1, cells := r.2.2.1, slots := r.2.2.2, locals := M1.2.2.2.2.1.2 } : Room)).room s m ((as.map (kn_v b base)).toArray) meth c :=
    ⟨B.exec, B.bytes, B.returns, hml, findClass_of_methodNamed B.named, fun w hw => hts w (List.mem_cons_of_mem _ hw), hns, hlk, fun hi => (name_of_methodNamed B.named B.method).1.trans hi, hK, hX, hbb, by omega, Nat.le_refl _, Nat.le_refl _⟩
  rw [lg_entry_eq]
  have hl := lv_entry (as.map (kn_v b base)) (n := M1.2.2.1) (by rw [kn_sl_len]; exact hlen)
  rw [← kn_vs_args] at hl
  refine IH (k0 := 0) (z0 := 0) C1 (by rw [Nat.zero_add]; exact Nat.le_refl _) (by rw [Nat.zero_add]; exact Nat.le_refl _) ?_ s.heap [] _ ⟨rr, rfl, by omega, hP, va_S.rf⟩ hl
  intro H locs ls pc hR hE
  rw [Nat.zero_add] at hR ⊢
  rw [Nat.zero_add]
  obtain ⟨rr1, e1, hz1, hP1, hS1⟩ := hR
  have hq : ∀ t : State, t.heap = H → kn_Qc cl b base L xs cA D r.1 r.2.1 r.2.2.1 ((as.map (kn_v b base)).toArray) s (.returned (r.1.map (kn_v b base))) t := fun t ht => ⟨rfl, hS1.F ht, rr1, e1, hz1, by rw [ht]; exact hP1⟩
  rcases hE with ⟨x, hv, hd, hr | ⟨hr, hx01⟩⟩ | ⟨x, hv, hd, hr⟩ | ⟨hv, hd, hr⟩
  · rw [hv] at hq ⊢
    exact W.iret B.exec B.bytes (B.returns.trans hr) (fun t ht _ => hq t ht) hS1.2.2 hd
  · rw [hv] at hq ⊢
    exact W.zret (ty := .boolean) B.exec B.bytes (B.returns.trans hr) (by rcases hx01 with rfl | rfl <;> rfl) (fun t ht _ => hq t ht) hS1.2.2 hd
  · rw [hv] at hq ⊢
    exact W.lret B.exec B.bytes (B.returns.trans hr) (fun t ht _ => hq t ht) hS1.2.2 hd
  · rw [hv] at hq ⊢
    exact W.vret B.exec B.bytes (B.returns.trans hr) (fun t ht _ => hq t ht) hS1.2.2 hd
theorem kn_blind (hns : ∀ w ∈ Ns, ∃ (a : String) (i : Nat) (x : MethodName) (h : String), w = .methodLinkNest a i x h) {as : List Value} : FrameBlind (kn_Pc cl Ns b base L xs cA D as h) := by
  intro a U g mk q
  obtain ⟨q0, q1, q2, q3, q4⟩ := q
  refine ⟨q0, fun w hw => ?_, va_K.moved (u := U) (U := U.calling g mk a) (Vm.Alike.refl U.vm) q2, va_X.moved (u := U) (U := U.calling g mk a) (Vm.Alike.refl U.vm) q3, q4⟩
  obtain ⟨a1, i1, x1, h1, rfl⟩ := hns w hw
  exact va_Nw.same rfl (rfl : U.vm = (U.calling g mk a).vm) (q1 _ hw)
theorem kn_callR {H : Heap} {locs : List Loc} {k z : Nat} {ls : Array Slot} {st0 rest : List Value} {a : Array Value} {v : Option Value} {h1 : kn_H} {rr : kn_H} (hr : va_Run p l e R s m args below meth c H locs k0 z0 k z (F0 m pc ls st0) rest (kn_Qc cl b base L xs cA D v h1 k a) (fun q => base ≤ q)) (hS : va_S (fun q => base ≤ q) s.heap H locs) (hz : s.heap.size + k0 = base + rr.length) (hH : H.size = base + rr.length)
    (kk : ∀ (H1 : Heap) (locs1 : List Loc), kn_Rel cl b base L xs cA D s H1 locs1 (k0 + k) h1 → W p l e R s m args below meth c H1 locs1 (k0 + k) (z0 + z) Q (F0 m (pc + 3) ls ((v.map (kn_v b base)).toList ++ rest))) : W p l e R s m args below meth c H locs k0 z0 Q (F0 m pc ls st0) := by
  intro T0 hT X
  obtain ⟨v', st₀, t, T', L', h0, X', hL, e1, e2, ⟨hv, hF, rr1, hh1, hz1, hP1⟩, st⟩ := hr T0 hT X
  obtain ⟨g1, g2⟩ := hF
  rw [h0] at g1 g2 hz1
  have hv' : v' = v.map (kn_v b base) := by cases hv; rfl
  subst hv'
  obtain ⟨t2, a1, b1⟩ := kk T'.heap (locs ++ L') ⟨rr1, hh1, by omega, by rw [e1]; exact hP1, by
    refine ⟨by rw [e1]; exact Nat.le_trans hS.1 g1, fun q h1 h2 => ?_, fun q hq => ?_⟩
    · rw [e1, g2 q (Nat.lt_of_lt_of_le h1 hS.1) h2]
      exact hS.2.1 q h1 h2
    · rcases List.mem_append.mp hq with h | h
      · exact hS.2.2 q h
      · exact hL q h⟩ T' rfl X'
  exact ⟨t2, st t2 a1, b1⟩
end KNS4
end
section
section KNS5
variable {p : Program} {l : Launch} {e : Env} {R : Room} {s : State} {m : MethodId} {args : Array Value} {below : List Frame} {meth : Method} {c : Code} {Q : State → Prop} {k0 z0 : Nat}
variable {cl : List vw_C} {Ts Tg Ns : List Cond} {T : List kn_M} {b base L : Nat} {xs : Nat → Int32} {cA : FieldType → ClassId} {D : va_G} {M M1 : kn_M} {pc j : Nat} {lo : List (Nat × Value)} {st as : List Value} {h : kn_H}
theorem kn_goodC (S : kn_St cl Ts Tg Ns T) (hj : kn_at T j = some M1) : GoodIn Tg (Cond.code M1.1 M1.2.1 M1.2.2.1 M1.2.2.2.1 :: Tg) := by
  intro w hw
  rcases List.mem_cons.mp hw with rfl | hw
  · exact ⟨(S.2.1 j M1 hj).1, Or.inl rfl⟩
  · exact ⟨hw, S.2.2.2.1 w hw⟩
theorem kn_map_opt (v : Option Value) (r : List Value) : (v.toList ++ r).map (kn_v b base) = (v.map (kn_v b base)).toList ++ r.map (kn_v b base) := by cases v <;> rfl
theorem kn_pre (C0 : kn_Ctx cl Tg Ns b base L xs cA D M p R s m args meth c) (hns : ∀ w ∈ Ns, ∃ (a : String) (i : Nat) (x : MethodName) (h : String), w = .methodLinkNest a i x h) {rr : kn_H} {H : Heap} {locs : List Loc} (hH : H.size = base + rr.length) (hP : va_P D cl (kn_w (kn_e cA b base) base rr) H) (hS : va_S (fun q => base ≤ q) s.heap H locs) {U : State} (hU : U.heap = H) (hW : s.WarmedH U.vm) :
    kn_Pc cl Ns b base L xs cA D as (.inl (.int, L, .inl xs) :: rr) ((as.map (kn_v b base)).toArray) U := by
  obtain ⟨hx, hb, hr, hml, hown, hts, hnw, hlk, hnm, hK, hX, hbb, hbs, hfr, hlc⟩ := C0
  refine ⟨rfl, fun w hw => ?_, va_K.moved hW.alike hK, ?_, rr, rfl, by rw [hU]; exact hH, by rw [hU]; exact hP⟩
  · obtain ⟨a1, i1, x1, h1, rfl⟩ := hns w hw
    exact va_Nw.warmM hW (hnw _ hw)
  · rw [hU]
    exact (hX.kept (hS.2.1 b (Nat.lt_of_lt_of_le hbb hbs) (Nat.not_le.mpr hbb))).moved hW.alike
theorem kn_cc_spec {n nL : Nat} (h : kn_cc M M1 n nL = true) : M1.2.2.2.2.1.1 + 1 ≤ M.2.2.2.2.1.1 ∧ 8 + (M1.2.2.1 + 11) + M1.2.2.2.2.1.2 ≤ M.2.2.2.2.1.2 ∧ nL = M1.2.2.1 ∧ M1.1.cls ≠ "java/lang/invoke/MethodHandle" ∧ M1.1.cls ≠ "java/lang/invoke/VarHandle" ∧ (parseMethodDescriptor M1.1.desc).map (fun d => d.parameters.length) = some n := by
  obtain ⟨g1, g2⟩ := Bool.and_eq_true_iff.mp h
  obtain ⟨g2, g3⟩ := Bool.and_eq_true_iff.mp g2
  obtain ⟨g3, g4⟩ := Bool.and_eq_true_iff.mp g3
  obtain ⟨g4, g5⟩ := Bool.and_eq_true_iff.mp g4
  obtain ⟨g5, g6⟩ := Bool.and_eq_true_iff.mp g5
  exact ⟨Nat.le_of_ble_eq_true g1, Nat.le_of_ble_eq_true g2, Nat.eq_of_beq_eq_true g3, of_decide_eq_true g4, of_decide_eq_true g5, of_decide_eq_true g6⟩
theorem kn_Wcall_v (S : kn_St cl Ts Tg Ns T) (C0 : kn_Ctx cl Tg Ns b base L xs cA D M p R s m args meth c) {idx : Nat} {aux pl : List Nat} (hd : decode M.2.1 pc = .ok (.invokevirtual idx, 3)) (hck : kn_ckV cl Ts Ns T M idx aux pl = true) {f1 : kn_F} (hs : kn_cv (pc + 3) aux lo st h = some (.inr (.inl (j, as, f1)))) (hj : kn_at T j = some M1)
    {r : Option Value × kn_H × Nat × Nat} (IH : kn_Snd cl Tg Ns b base L xs cA D l M1 (0, lv_args 0 as, []) h r) (hcells : k0 + r.2.2.1 ≤ R.cells) (hslots : z0 + r.2.2.2 ≤ R.slots) (hk : kn_Nx cl b base L xs cA D M.2.2.1 p l e R s m args below meth c Q (f1.1, f1.2.1, r.1.toList ++ f1.2.2) r.2.1 (k0 + r.2.2.1) (z0 + r.2.2.2)) :
    kn_Nx cl b base L xs cA D M.2.2.1 p l e R s m args below meth c Q (pc, lo, st) h k0 z0 := by
  obtain ⟨n, ci, nL, tl, a, rs, fs, rfl, hdr, hat, htk, hcat, hlen, rfl, rfl⟩ := kn_cv_inv hs
  unfold kn_ckV at hck
  split at hck
  · rename_i j' n' ci' nL' ne tl' i1 i2 i3 i4 tl2 he
    obtain ⟨rfl, rfl, rfl, rfl, rfl⟩ : j = j' ∧ n = n' ∧ ci = ci' ∧ nL = nL' ∧ tl = ne :: tl' := by simpa using he
    rw [hj] at hck
    split at hck
    · rename_i M1' q hM1 hq
      cases hM1
      obtain ⟨g1, g2⟩ := Bool.and_eq_true_iff.mp hck
      obtain ⟨g2, g3⟩ := Bool.and_eq_true_iff.mp g2
      obtain ⟨g3, g4⟩ := Bool.and_eq_true_iff.mp g3
      obtain ⟨g4, g5⟩ := Bool.and_eq_true_iff.mp g4
      obtain ⟨g5, g6⟩ := Bool.and_eq_true_iff.mp g5
      obtain ⟨c1, c2, rfl, c4, c5, c6⟩ := kn_cc_spec g1
      have hqc : q.1 = M1.1.cls := of_decide_eq_true g2
      rw [kn_at_eq] at hq
      intro H locs ls hR hl
      refine kn_bound (fun hle => ?_)
      have C0' := C0
      obtain ⟨hx, hb, hr, hml, hown, hts, hnw, hlk, hnm, hK, hX, hbb, hbs, hfr, hlc⟩ := C0
      obtain ⟨rr, rfl, hz, hP, hS⟩ := hR
      have hH := kn_exact hz hP hS hbs hle
      cases a with
      | zero => cases hat
      | succ a =>
        have hat' : kn_at rr a = some (.inr (ci, fs)) := hat
        have hM := kn_met S l hbb hj IH hlen
        have hst : st.map (kn_v b base) = ((st.take n).reverse.map (kn_v b base)).reverse ++ .ref (base + a) :: rs.map (kn_v b base) := by
          rw [List.map_reverse, List.reverse_reverse]
          calc st.map (kn_v b base) = (st.take n ++ st.drop n).map (kn_v b base) := by rw [List.take_append_drop]
            _ = _ := by rw [hdr, List.map_append]; rfl
        have hp : PreV s H q.1 (base + a) (kn_Pc cl Ns b base L xs cA D (.ref (a + 1) :: (st.take n).reverse) (.inl (.int, L, .inl xs) :: rr)) ((st.take n).reverse.map (kn_v b base)) :=
          ⟨kn_blind S.2.2.2.2.2, va_recv hK hP hq (kn_w_get hat'), fun U hU hW => kn_pre C0' S.2.2.2.2.2 hH hP hS hU hW⟩
        rw [hqc] at hp
        have hln : ((st.take n).reverse.map (kn_v b base)).length = n := by rw [List.length_map, List.length_reverse]; exact htk
        have hw8 : ((rs.map (kn_v b base)).map fun v => v.category).sum ≤ 8 := by rw [kn_cat_map]; exact hcat
        have hk' : ∀ (H1 : Heap) (locs1 : List Loc), kn_Rel cl b base L xs cA D s H1 locs1 (k0 + r.2.2.1) r.2.1 → W p l e R s m args below meth c H1 locs1 (k0 + r.2.2.1) (z0 + r.2.2.2) Q (F0 m (pc + 3) ls ((r.1.map (kn_v b base)).toList ++ rs.map (kn_v b base))) := by
          intro H1 locs1 hR1
          have := hk H1 locs1 ls hR1 hl
          rw [kn_map_opt] at this
          exact this
        cases ne with
        | zero =>
          exact kn_callR (rest := rs.map (kn_v b base)) (va_runV (As := (st.take n).reverse.map (kn_v b base)) ⟨hx, hb, hml, hown, hts⟩ hM ⟨callB_of n hts (kn_goodC S hj) rfl rfl rfl (hts _ (kn_w1_in S g4)) (hts _ (kn_w1_in S g3)) ⟨c4, c5, c6⟩ ⟨Nat.le_trans c1 hfr, Nat.le_trans c2 hlc⟩, hts _ (kn_w1_in S g5), hts _ (kn_w1_in S g6)⟩ hp rfl hln hl.1 hst (lv_room hw8) hd ⟨hcells, hslots⟩) hS hz hH hk'
        | succ ne =>
          have hnl : va_Nw (.methodLinkNest M.1.cls idx M1.1 "KnotLaw") s := hnw _ (by
            have h9 := of_decide_eq_true g3
            rw [kn_at_eq] at h9
            exact List.mem_of_getElem? h9)
          exact kn_callR (rest := rs.map (kn_v b base)) (va_runVN (As := (st.take n).reverse.map (kn_v b base)) ⟨hx, hb, hml, hown, hts⟩ hM ⟨va_cnB n hts (kn_goodC S hj) rfl rfl rfl hnl (hts _ (kn_w1_in S g4)) ⟨c4, c5, c6⟩ ⟨Nat.le_trans c1 hfr, Nat.le_trans c2 hlc⟩, hts _ (kn_w1_in S g5), hts _ (kn_w1_in S g6)⟩ hp rfl hln hl.1 hst (lv_room hw8) hd ⟨hcells, hslots⟩) hS hz hH hk'
    · cases hck
  · cases hck
theorem kn_Wcall_i (S : kn_St cl Ts Tg Ns T) (C0 : kn_Ctx cl Tg Ns b base L xs cA D M p R s m args meth c) {idx : Nat} {aux pl : List Nat} (hd : decode M.2.1 pc = .ok (.invokespecial idx, 3)) (hck : kn_ckI cl Ts Ns T M idx aux pl = true) {f1 : kn_F} (hs : kn_cv (pc + 3) aux lo st h = some (.inr (.inl (j, as, f1)))) (hj : kn_at T j = some M1)
    {r : Option Value × kn_H × Nat × Nat} (IH : kn_Snd cl Tg Ns b base L xs cA D l M1 (0, lv_args 0 as, []) h r) (hcells : k0 + r.2.2.1 ≤ R.cells) (hslots : z0 + r.2.2.2 ≤ R.slots) (hk : kn_Nx cl b base L xs cA D M.2.2.1 p l e R s m args below meth c Q (f1.1, f1.2.1, r.1.toList ++ f1.2.2) r.2.1 (k0 + r.2.2.1) (z0 + r.2.2.2)) :
    kn_Nx cl b base L xs cA D M.2.2.1 p l e R s m args below meth c Q (pc, lo, st) h k0 z0 := by
  obtain ⟨n, ci, nL, tl, a, rs, fs, rfl, hdr, hat, htk, hcat, hlen, rfl, rfl⟩ := kn_cv_inv hs
  unfold kn_ckI at hck
  split at hck
  · rename_i he
    cases he
  · rename_i j' n' ci' nL' ne tl' i1 i2 i3 tl2 he
    obtain ⟨rfl, rfl, rfl, rfl, rfl⟩ : j = j' ∧ n = n' ∧ ci = ci' ∧ nL = nL' ∧ tl = ne :: tl' := by simpa using he
    rw [hj] at hck
    dsimp only at hck
    obtain ⟨g1, g2⟩ := Bool.and_eq_true_iff.mp hck
    obtain ⟨g2, g3⟩ := Bool.and_eq_true_iff.mp g2
    obtain ⟨g3, g4⟩ := Bool.and_eq_true_iff.mp g3
    obtain ⟨g4, g5⟩ := Bool.and_eq_true_iff.mp g4
    obtain ⟨g5, g6⟩ := Bool.and_eq_true_iff.mp g5
    obtain ⟨c1, c2, rfl, c4, c5, c6⟩ := kn_cc_spec g1
    have hnm1 : M1.1.name = "<init>" := of_decide_eq_true g2
    have hrt1 : M1.2.2.2.1 = none := of_decide_eq_true g3
    intro H locs ls hR hl
    refine kn_bound (fun hle => ?_)
    have C0' := C0
    obtain ⟨hx, hb, hr, hml, hown, hts, hnw, hlk, hnm, hK, hX, hbb, hbs, hfr, hlc⟩ := C0
    obtain ⟨rr, rfl, hz, hP, hS⟩ := hR
    have hH := kn_exact hz hP hS hbs hle
    cases a with
    | zero => cases hat
    | succ a =>
      have hM := kn_met S l hbb hj IH hlen
      have hst : st.map (kn_v b base) = ((st.take n).reverse.map (kn_v b base)).reverse ++ .ref (base + a) :: rs.map (kn_v b base) := by
        rw [List.map_reverse, List.reverse_reverse]
        calc st.map (kn_v b base) = (st.take n ++ st.drop n).map (kn_v b base) := by rw [List.take_append_drop]
          _ = _ := by rw [hdr, List.map_append]; rfl
      have hp : PreS s H (kn_Pc cl Ns b base L xs cA D (.ref (a + 1) :: (st.take n).reverse) (.inl (.int, L, .inl xs) :: rr)) (.ref (base + a) :: (st.take n).reverse.map (kn_v b base)) :=
        ⟨kn_blind S.2.2.2.2.2, fun U hU hW => kn_pre C0' S.2.2.2.2.2 hH hP hS hU hW⟩
      have hln : ((st.take n).reverse.map (kn_v b base)).length = n := by rw [List.length_map, List.length_reverse]; exact htk
      have hw8 : ((rs.map (kn_v b base)).map fun v => v.category).sum ≤ 8 := by rw [kn_cat_map]; exact hcat
      have hG := kn_goodC S hj
      rw [hrt1] at hM hG
      have hk' : ∀ (H1 : Heap) (locs1 : List Loc), kn_Rel cl b base L xs cA D s H1 locs1 (k0 + r.2.2.1) r.2.1 → W p l e R s m args below meth c H1 locs1 (k0 + r.2.2.1) (z0 + r.2.2.2) Q (F0 m (pc + 3) ls ((r.1.map (kn_v b base)).toList ++ rs.map (kn_v b base))) := by
        intro H1 locs1 hR1
        have := hk H1 locs1 ls hR1 hl
        rw [kn_map_opt] at this
        exact this
      cases ne with
      | zero =>
        exact kn_callR (rest := rs.map (kn_v b base)) (va_runI (As := (st.take n).reverse.map (kn_v b base)) ⟨hx, hb, hml, hown, hts⟩ hM ⟨callB_of n hts hG rfl rfl rfl (hts _ (kn_w1_in S g5)) (hts _ (kn_w1_in S g4)) ⟨c4, c5, c6⟩ ⟨Nat.le_trans c1 hfr, Nat.le_trans c2 hlc⟩, hnm1, hts _ (kn_w1_in S g6)⟩ hp rfl hln hl.1 hst (lv_room hw8) hd ⟨hcells, hslots⟩) hS hz hH hk'
      | succ ne =>
        have hnl : va_Nw (.methodLinkNest M.1.cls idx M1.1 "KnotLaw") s := hnw _ (by
          have h9 := of_decide_eq_true g4
          rw [kn_at_eq] at h9
          exact List.mem_of_getElem? h9)
        exact kn_callR (rest := rs.map (kn_v b base)) (va_runIN (As := (st.take n).reverse.map (kn_v b base)) ⟨hx, hb, hml, hown, hts⟩ hM ⟨va_cnB n hts hG rfl rfl rfl hnl (hts _ (kn_w1_in S g5)) ⟨c4, c5, c6⟩ ⟨Nat.le_trans c1 hfr, Nat.le_trans c2 hlc⟩, hnm1, hts _ (kn_w1_in S g6)⟩ hp rfl hln hl.1 hst (lv_room hw8) hd ⟨hcells, hslots⟩) hS hz hH hk'
  · cases hck
theorem kn_Wcall_s (S : kn_St cl Ts Tg Ns T) (C0 : kn_Ctx cl Tg Ns b base L xs cA D M p R s m args meth c) {idx : Nat} {aux pl : List Nat} (hd : decode M.2.1 pc = .ok (.invokestatic idx, 3)) (hck : kn_ckS Ts Ns T M idx aux pl = true) {f1 : kn_F} (hs : kn_cs (pc + 3) aux lo st = some (.inr (.inl (j, as, f1)))) (hj : kn_at T j = some M1)
    {r : Option Value × kn_H × Nat × Nat} (IH : kn_Snd cl Tg Ns b base L xs cA D l M1 (0, lv_args 0 as, []) h r) (hcells : k0 + r.2.2.1 ≤ R.cells) (hslots : z0 + r.2.2.2 ≤ R.slots) (hk : kn_Nx cl b base L xs cA D M.2.2.1 p l e R s m args below meth c Q (f1.1, f1.2.1, r.1.toList ++ f1.2.2) r.2.1 (k0 + r.2.2.1) (z0 + r.2.2.2)) :
    kn_Nx cl b base L xs cA D M.2.2.1 p l e R s m args below meth c Q (pc, lo, st) h k0 z0 := by
  obtain ⟨n, ci, nL, tl, rfl, htk, hcat, hlen, rfl, rfl⟩ := kn_cs_inv hs
  unfold kn_ckS at hck
  split at hck
  · rename_i he
    cases he
  · rename_i he
    simp at he
  · rename_i j' n' ci' nL' ne tl' i1 i2 i3 tl2 he
    obtain ⟨rfl, rfl, rfl, rfl, rfl⟩ : j = j' ∧ n = n' ∧ ci = ci' ∧ nL = nL' ∧ tl = ne :: tl' := by simpa using he
    rw [hj] at hck
    dsimp only at hck
    obtain ⟨g1, g2⟩ := Bool.and_eq_true_iff.mp hck
    obtain ⟨g2, g3⟩ := Bool.and_eq_true_iff.mp g2
    obtain ⟨g3, g4⟩ := Bool.and_eq_true_iff.mp g3
    obtain ⟨c1, c2, rfl, c4, c5, c6⟩ := kn_cc_spec g1
    intro H locs ls hR hl
    refine kn_bound (fun hle => ?_)
    have C0' := C0
    obtain ⟨hx, hb, hr, hml, hown, hts, hnw, hlk, hnm, hK, hX, hbb, hbs, hfr, hlc⟩ := C0
    obtain ⟨rr, rfl, hz, hP, hS⟩ := hR
    have hH := kn_exact hz hP hS hbs hle
    have hM := kn_met S l hbb hj IH hlen
    have hst : st.map (kn_v b base) = ((st.take n).reverse.map (kn_v b base)).reverse ++ (st.drop n).map (kn_v b base) := by
      rw [List.map_reverse, List.reverse_reverse, ← List.map_append, List.take_append_drop]
    have hp : PreS s H (kn_Pc cl Ns b base L xs cA D ((st.take n).reverse) (.inl (.int, L, .inl xs) :: rr)) ((st.take n).reverse.map (kn_v b base)) :=
      ⟨kn_blind S.2.2.2.2.2, fun U hU hW => kn_pre C0' S.2.2.2.2.2 hH hP hS hU hW⟩
    have hln : ((st.take n).reverse.map (kn_v b base)).length = n := by rw [List.length_map, List.length_reverse]; exact htk
    have hw8 : (((st.drop n).map (kn_v b base)).map fun v => v.category).sum ≤ 8 := by rw [kn_cat_map]; exact hcat
    have hk' : ∀ (H1 : Heap) (locs1 : List Loc), kn_Rel cl b base L xs cA D s H1 locs1 (k0 + r.2.2.1) r.2.1 → W p l e R s m args below meth c H1 locs1 (k0 + r.2.2.1) (z0 + r.2.2.2) Q (F0 m (pc + 3) ls ((r.1.map (kn_v b base)).toList ++ (st.drop n).map (kn_v b base))) := by
      intro H1 locs1 hR1
      have := hk H1 locs1 ls hR1 hl
      rw [kn_map_opt] at this
      exact this
    cases ne with
    | zero =>
      exact kn_callR (rest := (st.drop n).map (kn_v b base)) (va_runS (As := (st.take n).reverse.map (kn_v b base)) ⟨hx, hb, hml, hown, hts⟩ hM ⟨callB_of n hts (kn_goodC S hj) rfl rfl rfl (hts _ (kn_w1_in S g3)) (hts _ (kn_w1_in S g2)) ⟨c4, c5, c6⟩ ⟨Nat.le_trans c1 hfr, Nat.le_trans c2 hlc⟩, hts _ (kn_w1_in S g4)⟩ hp rfl hln hl.1 hst (lv_room hw8) hd ⟨hcells, hslots⟩) hS hz hH hk'
    | succ ne =>
      have hnl : va_Nw (.methodLinkNest M.1.cls idx M1.1 "KnotLaw") s := hnw _ (by
        have h9 := of_decide_eq_true g2
        rw [kn_at_eq] at h9
        exact List.mem_of_getElem? h9)
      exact kn_callR (rest := (st.drop n).map (kn_v b base)) (va_runSN (As := (st.take n).reverse.map (kn_v b base)) ⟨hx, hb, hml, hown, hts⟩ hM ⟨va_cnB n hts (kn_goodC S hj) rfl rfl rfl hnl (hts _ (kn_w1_in S g3)) ⟨c4, c5, c6⟩ ⟨Nat.le_trans c1 hfr, Nat.le_trans c2 hlc⟩, hts _ (kn_w1_in S g4), trivial⟩ hp rfl hln hl.1 hst (lv_room hw8) hd ⟨hcells, hslots⟩) hS hz hH hk'
  · cases hck
/-- **every run of the small machine is the JVM's** -/
theorem kn_sound (S : kn_St cl Ts Tg Ns T) (l : Launch) : ∀ (n : Nat) (M : kn_M) (f : kn_F) (h : kn_H) (r : Option Value × kn_H × Nat × Nat), kn_run T n M f h = some r → kn_okM cl Ts Ns T M = true → kn_Snd cl Tg Ns b base L xs cA D l M f h r := by
  intro n
  induction n with
  | zero => intro M f h r hr; cases hr
  | succ n ih =>
    intro M f h r hr hM
    obtain ⟨pc, lo, st⟩ := f
    rw [kn_run] at hr
    split at hr
    · cases hr
    · rename_i i hi
      have hok := kn_okM_at hM hi
      intro p e R s m args below meth c Q k0 z0 C0 hcells hslots hret
      split at hr
      · cases hr
      · rename_i f1 h1 k z hs
        cases hrun : kn_run T n M f1 h1 with
        | none => rw [hrun] at hr; cases hr
        | some r1 =>
          rw [hrun] at hr
          cases hr
          dsimp only at hcells hslots hret
          refine kn_go S C0 hok hs (by omega) (by omega) (ih M f1 h1 r1 hrun hM C0 (by omega) (by omega) ?_)
          intro H locs ls pc1 hR hE
          have hq := hret H locs ls pc1 (by rw [← Nat.add_assoc]; exact hR) hE
          rw [← Nat.add_assoc, ← Nat.add_assoc] at hq
          exact hq
      · rename_i v hs
        cases hr
        intro H locs ls hR hl
        obtain ⟨hd, -⟩ := Bool.and_eq_true_iff.mp hok
        replace hd := of_decide_eq_true hd
        obtain ⟨ins, len, aux, pl⟩ := i
        rcases kn_step_end hs with he | he | he
        · cases he
          obtain ⟨x, rfl, rfl, hrt⟩ := kn_ri_inv hs
          exact hret H locs ls pc hR (Or.inl ⟨x, rfl, hd, hrt⟩)
        · cases he
          replace hs : kn_rl M.2.2.2.1 st = some (.inr (.inr v)) := hs
          unfold kn_rl at hs
          split at hs
          · rename_i x hrt
            cases hs
            exact hret H locs ls pc hR (Or.inr (Or.inl ⟨x, rfl, hd, hrt⟩))
          · cases hs
        · cases he
          replace hs : kn_rv M.2.2.2.1 st = some (.inr (.inr v)) := hs
          unfold kn_rv at hs
          split at hs
          · rename_i hrt
            cases hs
            exact hret H locs ls pc hR (Or.inr (Or.inr ⟨rfl, hd, hrt⟩))
          · cases hs
      · rename_i j as f1 hs
        cases hj : kn_at T j with
        | none => rw [hj] at hr; cases hr
        | some M1 =>
          rw [hj] at hr
          dsimp only at hr
          cases hrun1 : kn_run T n M1 (0, lv_args 0 as, []) h with
          | none => rw [hrun1] at hr; cases hr
          | some r1 =>
            rw [hrun1] at hr
            obtain ⟨v, h1, k, z⟩ := r1
            dsimp only at hr
            cases hrun : kn_run T n M (f1.1, f1.2.1, v.toList ++ f1.2.2) h1 with
            | none => rw [hrun] at hr; cases hr
            | some r2 =>
              rw [hrun] at hr
              cases hr
              dsimp only at hcells hslots hret
              have IH1 : kn_Snd cl Tg Ns b base L xs cA D l M1 (0, lv_args 0 as, []) h (v, h1, k, z) := ih M1 (0, lv_args 0 as, []) h (v, h1, k, z) hrun1 (S.2.1 j M1 hj).2.2
              have IH2 : kn_Snd cl Tg Ns b base L xs cA D l M (f1.1, f1.2.1, v.toList ++ f1.2.2) h1 r2 := ih M (f1.1, f1.2.1, v.toList ++ f1.2.2) h1 r2 hrun hM
              have hk : kn_Nx cl b base L xs cA D M.2.2.1 p l e R s m args below meth c Q (f1.1, f1.2.1, v.toList ++ f1.2.2) h1 (k0 + k) (z0 + z) := by
                refine IH2 C0 (by omega) (by omega) ?_
                intro H locs ls pc1 hR hE
                have hq := hret H locs ls pc1 (by rw [← Nat.add_assoc]; exact hR) hE
                rw [← Nat.add_assoc, ← Nat.add_assoc] at hq
                exact hq
              obtain ⟨hd, ho⟩ := Bool.and_eq_true_iff.mp hok
              replace hd := of_decide_eq_true hd
              obtain ⟨ins, len, aux, pl⟩ := i
              rcases kn_step_call hs with ⟨ix, he⟩ | ⟨ix, he⟩ | ⟨ix, he⟩
              · cases he
                exact kn_Wcall_v S C0 hd ho hs hj IH1 (by dsimp only; omega) (by dsimp only; omega) hk
              · cases he
                cases aux with
                | nil =>
                  exfalso
                  replace hs : kn_ci (pc + 3) [] lo st h = some (.inr (.inl (j, as, f1))) := hs
                  unfold kn_ci at hs
                  dsimp only at hs
                  split at hs
                  · revert hs
                    generalize Nat.ble _ _ = bb
                    cases bb <;> intro hs <;> cases hs
                  · cases hs
                | cons a1 ar => exact kn_Wcall_i S C0 hd ho hs hj IH1 (by dsimp only; omega) (by dsimp only; omega) hk
              · cases he
                cases aux with
                | nil =>
                  exfalso
                  replace hs : kn_copy (pc + 3) lo st h = some (.inr (.inl (j, as, f1))) := hs
                  simp only [kn_copy, kn_to, cond_eq_ite] at hs
                  (repeat' split at hs) <;> simp at hs
                | cons a1 ar =>
                  cases ar with
                  | nil =>
                    exfalso
                    replace hs : kn_mx (pc + 3) lo st h = some (.inr (.inl (j, as, f1))) := hs
                    simp only [kn_mx, kn_to, cond_eq_ite] at hs
                    (repeat' split at hs) <;> simp at hs
                  | cons a2 ar => exact kn_Wcall_s S C0 hd ho hs hj IH1 (by dsimp only; omega) (by dsimp only; omega) hk
end KNS5
end
section
def kR0 : String := "KnotLaw$Clauses"
def kF0 : u_T := fun k => match k with
  | 0 => ("KnotLaw$Clauses", "kinds", "[I", true)
  | 1 => ("KnotLaw$Clauses", "holds", "[I", true)
  | 2 => ("KnotLaw$Clauses", "barred", "[I", true)
  | 3 => ("KnotLaw$Clauses", "parties", "[I", true)
  | _ => ("KnotLaw$Clauses", "size", "I", false)
def kt0 : Nat → FieldType := fun k => match k with
  | 0 => (.array .int)
  | 1 => (.array .int)
  | 2 => (.array .int)
  | 3 => (.array .int)
  | _ => .int
theorem kn0_nm : ∀ a, a < 5 → ∀ b, b < 5 → a ≠ b → (kF0 a).2.1 ≠ (kF0 b).2.1 := by decide +kernel
theorem kn0_ty : ∀ k, k < 5 → parseFieldDescriptor (kF0 k).2.2.1 = some (kt0 k) := by decide +kernel
theorem kn0_in : ∀ w ∈ u_ws kR0 kF0 5, w ∈ lw_tbl ∧ goodWord w = true := by decide +kernel
def kR1 : String := "KnotLaw$Foretold"
def kF1 : u_T := fun k => match k with
  | 0 => ("KnotLaw$Foretold", "depths", "[I", true)
  | 1 => ("KnotLaw$Foretold", "bars", "[I", true)
  | _ => ("KnotLaw$Foretold", "ways", "[I", true)
def kt1 : Nat → FieldType := fun k => match k with
  | 0 => (.array .int)
  | 1 => (.array .int)
  | _ => (.array .int)
theorem kn1_nm : ∀ a, a < 3 → ∀ b, b < 3 → a ≠ b → (kF1 a).2.1 ≠ (kF1 b).2.1 := by decide +kernel
theorem kn1_ty : ∀ k, k < 3 → parseFieldDescriptor (kF1 k).2.2.1 = some (kt1 k) := by decide +kernel
theorem kn1_in : ∀ w ∈ u_ws kR1 kF1 3, w ∈ lw_tbl ∧ goodWord w = true := by decide +kernel
def kR2 : String := "KnotLaw$Past"
def kF2 : u_T := fun k => match k with
  | 0 => ("KnotLaw$Past", "numbers", "[I", true)
  | _ => ("KnotLaw$Past", "size", "I", false)
def kt2 : Nat → FieldType := fun k => match k with
  | 0 => (.array .int)
  | _ => .int
theorem kn2_nm : ∀ a, a < 2 → ∀ b, b < 2 → a ≠ b → (kF2 a).2.1 ≠ (kF2 b).2.1 := by decide +kernel
theorem kn2_ty : ∀ k, k < 2 → parseFieldDescriptor (kF2 k).2.2.1 = some (kt2 k) := by decide +kernel
theorem kn2_in : ∀ w ∈ u_ws kR2 kF2 2, w ∈ lw_tbl ∧ goodWord w = true := by decide +kernel
def kR3 : String := "KnotLaw$Reader"
def kF3 : u_T := fun k => match k with
  | 0 => ("KnotLaw$Reader", "letters", "[I", true)
  | 1 => ("KnotLaw$Reader", "told", "LKnotLaw$Clauses;", true)
  | 2 => ("KnotLaw$Reader", "size", "I", false)
  | _ => ("KnotLaw$Reader", "at", "I", false)
def kt3 : Nat → FieldType := fun k => match k with
  | 0 => (.array .int)
  | 1 => (.object "KnotLaw$Clauses")
  | 2 => .int
  | _ => .int
theorem kn3_nm : ∀ a, a < 4 → ∀ b, b < 4 → a ≠ b → (kF3 a).2.1 ≠ (kF3 b).2.1 := by decide +kernel
theorem kn3_ty : ∀ k, k < 4 → parseFieldDescriptor (kF3 k).2.2.1 = some (kt3 k) := by decide +kernel
theorem kn3_in : ∀ w ∈ u_ws kR3 kF3 4, w ∈ lw_tbl ∧ goodWord w = true := by decide +kernel
def kR4 : String := "KnotLaw$Rope"
def kF4 : u_T := fun k => match k with
  | 0 => ("KnotLaw$Rope", "told", "LKnotLaw$Clauses;", true)
  | 1 => ("KnotLaw$Rope", "past", "LKnotLaw$Past;", true)
  | 2 => ("KnotLaw$Rope", "firms", "[I", true)
  | 3 => ("KnotLaw$Rope", "tied", "I", false)
  | 4 => ("KnotLaw$Rope", "wars", "I", false)
  | 5 => ("KnotLaw$Rope", "wet", "I", false)
  | 6 => ("KnotLaw$Rope", "day", "I", false)
  | _ => ("KnotLaw$Rope", "drawn", "I", false)
def kt4 : Nat → FieldType := fun k => match k with
  | 0 => (.object "KnotLaw$Clauses")
  | 1 => (.object "KnotLaw$Past")
  | 2 => (.array .int)
  | 3 => .int
  | 4 => .int
  | 5 => .int
  | 6 => .int
  | _ => .int
theorem kn4_nm : ∀ a, a < 8 → ∀ b, b < 8 → a ≠ b → (kF4 a).2.1 ≠ (kF4 b).2.1 := by decide +kernel
theorem kn4_ty : ∀ k, k < 8 → parseFieldDescriptor (kF4 k).2.2.1 = some (kt4 k) := by decide +kernel
theorem kn4_in : ∀ w ∈ u_ws kR4 kF4 8, w ∈ lw_tbl ∧ goodWord w = true := by decide +kernel
def kR5 : String := "KnotLaw$Sheets"
def kF5 : u_T := fun k => match k with
  | 0 => ("KnotLaw$Sheets", "lanes", "[I", true)
  | 1 => ("KnotLaw$Sheets", "sizes", "[I", true)
  | _ => ("KnotLaw$Sheets", "items", "[J", true)
def kt5 : Nat → FieldType := fun k => match k with
  | 0 => (.array .int)
  | 1 => (.array .int)
  | _ => (.array .long)
theorem kn5_nm : ∀ a, a < 3 → ∀ b, b < 3 → a ≠ b → (kF5 a).2.1 ≠ (kF5 b).2.1 := by decide +kernel
theorem kn5_ty : ∀ k, k < 3 → parseFieldDescriptor (kF5 k).2.2.1 = some (kt5 k) := by decide +kernel
theorem kn5_in : ∀ w ∈ u_ws kR5 kF5 3, w ∈ lw_tbl ∧ goodWord w = true := by decide +kernel
def kR6 : String := "KnotLaw"
def kF6 : u_T := fun k => match k with
  | 0 => ("KnotLaw", "rope", "LKnotLaw$Rope;", true)
  | 1 => ("KnotLaw", "kept", "LKnotLaw$Rope;", true)
  | 2 => ("KnotLaw", "foretold", "LKnotLaw$Foretold;", true)
  | 3 => ("KnotLaw", "reader", "LKnotLaw$Reader;", true)
  | 4 => ("KnotLaw", "sheets", "LKnotLaw$Sheets;", true)
  | _ => ("KnotLaw", "isKept", "Z", false)
def kt6 : Nat → FieldType := fun k => match k with
  | 0 => (.object "KnotLaw$Rope")
  | 1 => (.object "KnotLaw$Rope")
  | 2 => (.object "KnotLaw$Foretold")
  | 3 => (.object "KnotLaw$Reader")
  | 4 => (.object "KnotLaw$Sheets")
  | _ => .boolean
theorem kn6_nm : ∀ a, a < 6 → ∀ b, b < 6 → a ≠ b → (kF6 a).2.1 ≠ (kF6 b).2.1 := by decide +kernel
theorem kn6_ty : ∀ k, k < 6 → parseFieldDescriptor (kF6 k).2.2.1 = some (kt6 k) := by decide +kernel
theorem kn6_in : ∀ w ∈ u_ws kR6 kF6 6, w ∈ lw_tbl ∧ goodWord w = true := by decide +kernel
def kR7 : String := "KnotLawModel"
def kF7 : u_T := fun k => match k with
  | 0 => ("KnotLawModel", "lane", "[I", true)
  | 1 => ("KnotLawModel", "size", "[I", true)
  | 2 => ("KnotLawModel", "item", "[J", true)
  | 3 => ("KnotLawModel", "letters", "I", false)
  | 4 => ("KnotLawModel", "tape", "[I", true)
  | 5 => ("KnotLawModel", "position", "I", false)
  | 6 => ("KnotLawModel", "number", "I", false)
  | 7 => ("KnotLawModel", "now", "[I", true)
  | 8 => ("KnotLawModel", "tried", "[I", true)
  | 9 => ("KnotLawModel", "read", "[I", true)
  | 10 => ("KnotLawModel", "kept", "[I", true)
  | 11 => ("KnotLawModel", "isKept", "Z", false)
  | 12 => ("KnotLawModel", "ways", "[I", true)
  | _ => ("KnotLawModel", "wins", "[Z", true)
def kt7 : Nat → FieldType := fun k => match k with
  | 0 => (.array .int)
  | 1 => (.array .int)
  | 2 => (.array .long)
  | 3 => .int
  | 4 => (.array .int)
  | 5 => .int
  | 6 => .int
  | 7 => (.array .int)
  | 8 => (.array .int)
  | 9 => (.array .int)
  | 10 => (.array .int)
  | 11 => .boolean
  | 12 => (.array .int)
  | _ => (.array .boolean)
theorem kn7_nm : ∀ a, a < 14 → ∀ b, b < 14 → a ≠ b → (kF7 a).2.1 ≠ (kF7 b).2.1 := by decide +kernel
theorem kn7_ty : ∀ k, k < 14 → parseFieldDescriptor (kF7 k).2.2.1 = some (kt7 k) := by decide +kernel
theorem kn7_in : ∀ w ∈ u_ws kR7 kF7 14, w ∈ lw_tbl ∧ goodWord w = true := by decide +kernel
def kn_cl : List vw_C := [(kR0, kF0, 5), (kR1, kF1, 3), (kR2, kF2, 2), (kR3, kF3, 4), (kR4, kF4, 8), (kR5, kF5, 3), (kR6, kF6, 6), (kR7, kF7, 14)]
def kn_Ns : List Cond := [.methodLinkNest "KnotLaw" 9 ⟨"KnotLaw$Rope", "<init>", "()V"⟩ "KnotLaw", .methodLinkNest "KnotLaw$Rope" 11 ⟨"KnotLaw$Clauses", "<init>", "()V"⟩ "KnotLaw", .methodLinkNest "KnotLaw$Rope" 20 ⟨"KnotLaw$Past", "<init>", "()V"⟩ "KnotLaw", .methodLinkNest "KnotLaw" 21 ⟨"KnotLaw$Foretold", "<init>", "()V"⟩ "KnotLaw", .methodLinkNest "KnotLaw" 28 ⟨"KnotLaw$Reader", "<init>", "()V"⟩ "KnotLaw", .methodLinkNest "KnotLaw$Reader" 17 ⟨"KnotLaw$Clauses", "<init>", "()V"⟩ "KnotLaw", .methodLinkNest "KnotLaw" 35 ⟨"KnotLaw$Sheets", "<init>", "()V"⟩ "KnotLaw", .methodLinkNest "KnotLaw$Rope" 74 ⟨"KnotLaw", "has", "(II)Z"⟩ "KnotLaw", .methodLinkNest "KnotLaw$Reader" 65 ⟨"KnotLaw", "isWithin", "(III)Z"⟩ "KnotLaw", .methodLinkNest "KnotLaw$Reader" 51 ⟨"KnotLaw", "isParty", "(I)Z"⟩ "KnotLaw", .methodLinkNest "KnotLaw$Foretold" 37 ⟨"KnotLaw", "has", "(II)Z"⟩ "KnotLaw"]
def kn_Np : List Nat := [53, 59, 93, 144, 160, 165, 182, 249, 316, 321, 446]
end
section
def km_X0_init : kn_M := (⟨"KnotLaw$Clauses", "<init>", "()V"⟩, prog_2_method_1_code, 1, none, (1, 20), [
  [some (.aload_n 0, 0, [], []), some (.invokespecial 3, 0, [], [62, 49]), none, none, some (.aload_n 0, 0, [], []), some (.bipush 8, 0, [], []), none, some (.newarray .int, 0, [], [90]), none, some (.putfield 9, 0, [0, 0, 3], [63]), none, none, some (.aload_n 0, 0, [], []), some (.bipush 8, 0, [], []), none, some (.newarray .int, 0, [], [90])],
  [none, some (.putfield 15, 0, [0, 1, 3], [66]), none, none, some (.aload_n 0, 0, [], []), some (.bipush 8, 0, [], []), none, some (.newarray .int, 0, [], [90]), none, some (.putfield 18, 0, [0, 2, 3], [69]), none, none, some (.aload_n 0, 0, [], []), some (.bipush 8, 0, [], []), none, some (.newarray .int, 0, [], [90])],
  [none, some (.putfield 21, 0, [0, 3, 3], [73]), none, none, some (.aload_n 0, 0, [], []), some (.iconst 0, 0, [], []), some (.putfield 24, 0, [0, 4, 0], [75]), none, none, some (.return_, 0, [], [])]])
def km_X0_add : kn_M := (⟨"KnotLaw$Clauses", "add", "(IIII)I"⟩, prog_2_method_2_code, 6, some .int, (0, 0), [
  [some (.aload_n 0, 0, [], []), some (.getfield 24, 0, [0, 4], [75]), none, none, some (.istore 5, 0, [], []), none, some (.iload 5, 0, [], []), none, some (.ifCond .lt 10, 0, [18], []), none, none, some (.iload 5, 0, [], []), none, some (.bipush 8, 0, [], []), none, some (.if_icmp .lt 6, 0, [21], [])],
  [none, none, some (.bipush (-3), 0, [], []), none, some (.ireturn, 0, [], []), some (.aload_n 0, 0, [], []), some (.getfield 9, 0, [0, 0], [63]), none, none, some (.iload 5, 0, [], []), none, some (.iload_n 1, 0, [], []), some (.iastore, 0, [], []), some (.aload_n 0, 0, [], []), some (.getfield 15, 0, [0, 1], [66])],
  [none, some (.iload 5, 0, [], []), none, some (.iload_n 2, 0, [], []), some (.iastore, 0, [], []), some (.aload_n 0, 0, [], []), some (.getfield 18, 0, [0, 2], [69]), none, none, some (.iload 5, 0, [], []), none, some (.iload_n 3, 0, [], []), some (.iastore, 0, [], []), some (.aload_n 0, 0, [], []), some (.getfield 21, 0, [0, 3], [73])],
  [none, some (.iload 5, 0, [], []), none, some (.iload 4, 0, [], []), none, some (.iastore, 0, [], []), some (.aload_n 0, 0, [], []), some (.iload 5, 0, [], []), none, some (.iconst 1, 0, [], []), some (.iadd, 0, [], []), some (.putfield 24, 0, [0, 4, 0], [75]), none, none, some (.iload 5, 0, [], [])],
  [some (.ireturn, 0, [], [])]])
def km_X0_owedBy : kn_M := (⟨"KnotLaw$Clauses", "owedBy", "(I)I"⟩, prog_2_method_3_code, 4, some .int, (0, 0), [
  [some (.iconst 0, 0, [], []), some (.istore_n 2, 0, [], []), some (.iconst 0, 0, [], []), some (.istore_n 3, 0, [], []), some (.iload_n 3, 0, [], []), some (.aload_n 0, 0, [], []), some (.getfield 24, 0, [0, 4], [75]), none, none, some (.if_icmp .ge 31, 0, [40], []), none, none, some (.iload_n 3, 0, [], []), some (.bipush 8, 0, [], []), none, some (.if_icmp .ge 25, 0, [40], [])],
  [none, none, some (.aload_n 0, 0, [], []), some (.getfield 21, 0, [0, 3], [73]), none, none, some (.iload_n 3, 0, [], []), some (.iaload, 0, [], []), some (.iload_n 1, 0, [], []), some (.if_icmp .ne 9, 0, [34], []), none, none, some (.iload_n 2, 0, [], []), some (.iconst 1, 0, [], []), some (.iload_n 3, 0, [], []), some (.ishl, 0, [], [])],
  [some (.ior, 0, [], []), some (.istore_n 2, 0, [], []), some (.iinc 3 1, 0, [], []), none, none, some (.goto (-33), 0, [4], []), none, none, some (.iload_n 2, 0, [], []), some (.ireturn, 0, [], [])]])
def km_X0_become : kn_M := (⟨"KnotLaw$Clauses", "become", "(LKnotLaw$Clauses;)V"⟩, prog_2_method_4_code, 2, none, (1, 26), [
  [some (.aload_n 1, 0, [], []), some (.getfield 9, 0, [0, 0], [63]), none, none, some (.iconst 0, 0, [], []), some (.aload_n 0, 0, [], []), some (.getfield 9, 0, [0, 0], [63]), none, none, some (.iconst 0, 0, [], []), some (.bipush 8, 0, [], []), none, some (.invokestatic 28, 0, [], [331, 333, 332, 40]), none, none, some (.aload_n 1, 0, [], [])],
  [some (.getfield 15, 0, [0, 1], [66]), none, none, some (.iconst 0, 0, [], []), some (.aload_n 0, 0, [], []), some (.getfield 15, 0, [0, 1], [66]), none, none, some (.iconst 0, 0, [], []), some (.bipush 8, 0, [], []), none, some (.invokestatic 28, 0, [], [331, 333, 332, 40]), none, none, some (.aload_n 1, 0, [], []), some (.getfield 18, 0, [0, 2], [69])],
  [none, none, some (.iconst 0, 0, [], []), some (.aload_n 0, 0, [], []), some (.getfield 18, 0, [0, 2], [69]), none, none, some (.iconst 0, 0, [], []), some (.bipush 8, 0, [], []), none, some (.invokestatic 28, 0, [], [331, 333, 332, 40]), none, none, some (.aload_n 1, 0, [], []), some (.getfield 21, 0, [0, 3], [73])],
  [none, some (.iconst 0, 0, [], []), some (.aload_n 0, 0, [], []), some (.getfield 21, 0, [0, 3], [73]), none, none, some (.iconst 0, 0, [], []), some (.bipush 8, 0, [], []), none, some (.invokestatic 28, 0, [], [331, 333, 332, 40]), none, none, some (.aload_n 0, 0, [], []), some (.aload_n 1, 0, [], []), some (.getfield 24, 0, [0, 4], [75])],
  [none, some (.putfield 24, 0, [0, 4, 0], [75]), none, none, some (.return_, 0, [], [])]])
def km_X1_init : kn_M := (⟨"KnotLaw$Foretold", "<init>", "()V"⟩, prog_3_method_1_code, 1, none, (1, 20), [
  [some (.aload_n 0, 0, [], []), some (.invokespecial 3, 0, [], [147, 49]), none, none, some (.aload_n 0, 0, [], []), some (.bipush 8, 0, [], []), none, some (.newarray .int, 0, [], [90]), none, some (.putfield 9, 0, [1, 0, 3], [148]), none, none, some (.aload_n 0, 0, [], []), some (.bipush 8, 0, [], []), none, some (.newarray .int, 0, [], [90])],
  [none, some (.putfield 15, 0, [1, 1, 3], [149]), none, none, some (.aload_n 0, 0, [], []), some (.sipush 256, 0, [], []), none, none, some (.newarray .int, 0, [], [90]), none, some (.putfield 18, 0, [1, 2, 3], [150]), none, none, some (.return_, 0, [], [])]])
def km_X1_depthOf : kn_M := (⟨"KnotLaw$Foretold", "depthOf", "(LKnotLaw$Rope;I)I"⟩, prog_3_method_2_code, 3, some .int, (3, 66), [
  [some (.aload_n 0, 0, [], []), some (.aload_n 1, 0, [], []), some (.invokevirtual 21, 0, [7, 1, 1, 3, 0], [442, 36, 444, 7]), none, none, some (.aload_n 0, 0, [], []), some (.getfield 9, 0, [1, 0], [148]), none, none, some (.iload_n 2, 0, [], []), some (.iaload, 0, [], []), some (.ireturn, 0, [], [])]])
def km_X1_deepest : kn_M := (⟨"KnotLaw$Foretold", "deepest", "(LKnotLaw$Rope;)I"⟩, prog_3_method_3_code, 4, some .int, (3, 66), [
  [some (.aload_n 0, 0, [], []), some (.aload_n 1, 0, [], []), some (.invokevirtual 21, 0, [7, 1, 1, 3, 0], [442, 36, 444, 7]), none, none, some (.iconst 0, 0, [], []), some (.istore_n 2, 0, [], []), some (.iconst 0, 0, [], []), some (.istore_n 3, 0, [], []), some (.iload_n 3, 0, [], []), some (.bipush 8, 0, [], []), none, some (.if_icmp .ge 20, 0, [32], []), none, none, some (.iload_n 2, 0, [], [])],
  [some (.aload_n 0, 0, [], []), some (.getfield 9, 0, [1, 0], [148]), none, none, some (.iload_n 3, 0, [], []), some (.iaload, 0, [], []), some (.invokestatic 25, 0, [0], [451, 436, 41]), none, none, some (.istore_n 2, 0, [], []), some (.iinc 3 1, 0, [], []), none, none, some (.goto (-20), 0, [9], [])],
  [some (.iload_n 2, 0, [], []), some (.ireturn, 0, [], [])]])
def km_X1_fillDepths : kn_M := (⟨"KnotLaw$Foretold", "fillDepths", "(LKnotLaw$Rope;)V"⟩, prog_3_method_4_code, 3, none, (2, 44), [
  [some (.iconst 0, 0, [], []), some (.istore_n 2, 0, [], []), some (.iload_n 2, 0, [], []), some (.bipush 8, 0, [], []), none, some (.if_icmp .ge 50, 0, [55], []), none, none, some (.aload_n 0, 0, [], []), some (.getfield 9, 0, [1, 0], [148]), none, none, some (.iload_n 2, 0, [], []), some (.aload_n 1, 0, [], []), some (.getfield 31, 0, [4, 3], [116])],
  [none, some (.iload_n 2, 0, [], []), some (.invokestatic 37, 0, [97, 2, 6, 2, 1], [10, 32, 243]), none, none, some (.ifCond .eq 26, 0, [47], []), none, none, some (.iconst 1, 0, [], []), some (.aload_n 0, 0, [], []), some (.aload_n 1, 0, [], []), some (.getfield 41, 0, [4, 0], [109]), none, none, some (.getfield 45, 0, [0, 2], [71])],
  [none, some (.iload_n 2, 0, [], []), some (.iaload, 0, [], []), some (.aload_n 1, 0, [], []), some (.getfield 31, 0, [4, 3], [116]), none, none, some (.iand, 0, [], []), some (.invokevirtual 50, 0, [8, 1, 1, 4, 0], [447, 36, 449, 8]), none, none, some (.iadd, 0, [], []), some (.goto 4, 0, [48], []), none, none, some (.iconst 0, 0, [], [])],
  [some (.iastore, 0, [], []), some (.iinc 2 1, 0, [], []), none, none, some (.goto (-50), 0, [2], []), none, none, some (.return_, 0, [], [])]])
def km_X1_deepestAmong : kn_M := (⟨"KnotLaw$Foretold", "deepestAmong", "(I)I"⟩, prog_3_method_5_code, 4, some .int, (1, 21), [
  [some (.iconst 0, 0, [], []), some (.istore_n 2, 0, [], []), some (.iconst 0, 0, [], []), some (.istore_n 3, 0, [], []), some (.iload_n 3, 0, [], []), some (.bipush 8, 0, [], []), none, some (.if_icmp .ge 28, 0, [35], []), none, none, some (.iload_n 1, 0, [], []), some (.iload_n 3, 0, [], []), some (.invokestatic 37, 0, [97, 2, 6, 2, 1], [10, 32, 243]), none, none, some (.ifCond .eq 14, 0, [29], [])],
  [none, none, some (.iload_n 2, 0, [], []), some (.aload_n 0, 0, [], []), some (.getfield 9, 0, [1, 0], [148]), none, none, some (.iload_n 3, 0, [], []), some (.iaload, 0, [], []), some (.invokestatic 25, 0, [0], [451, 436, 41]), none, none, some (.istore_n 2, 0, [], []), some (.iinc 3 1, 0, [], [])],
  [some (.goto (-28), 0, [4], []), none, none, some (.iload_n 2, 0, [], []), some (.ireturn, 0, [], [])]])
def km_X1_countOrders : kn_M := (⟨"KnotLaw$Foretold", "countOrders", "(LKnotLaw$Rope;)I"⟩, prog_3_method_6_code, 2, some .int, (3, 67), [
  [some (.aload_n 0, 0, [], []), some (.aload_n 1, 0, [], []), some (.invokevirtual 54, 0, [11, 1, 1, 3, 0], [487, 36, 489, 9]), none, none, some (.aload_n 0, 0, [], []), some (.aload_n 1, 0, [], []), some (.getfield 31, 0, [4, 3], [116]), none, none, some (.invokevirtual 57, 0, [12, 1, 1, 4, 0], [491, 36, 493, 10]), none, none, some (.ireturn, 0, [], [])]])
def km_X1_countOrdersWith : kn_M := (⟨"KnotLaw$Foretold", "countOrdersWith", "(LKnotLaw$Rope;II)I"⟩, prog_3_method_7_code, 4, some .int, (3, 67), [
  [some (.aload_n 0, 0, [], []), some (.aload_n 1, 0, [], []), some (.invokevirtual 54, 0, [11, 1, 1, 3, 0], [487, 36, 489, 9]), none, none, some (.aload_n 0, 0, [], []), some (.getfield 15, 0, [1, 1], [149]), none, none, some (.iload_n 3, 0, [], []), some (.dup2, 0, [], []), some (.iaload, 0, [], []), some (.iconst 1, 0, [], []), some (.iload_n 2, 0, [], []), some (.ishl, 0, [], []), some (.ior, 0, [], [])],
  [some (.iastore, 0, [], []), some (.aload_n 0, 0, [], []), some (.aload_n 1, 0, [], []), some (.getfield 31, 0, [4, 3], [116]), none, none, some (.invokevirtual 57, 0, [12, 1, 1, 4, 0], [491, 36, 493, 10]), none, none, some (.ireturn, 0, [], [])]])
def km_X1_fillBars : kn_M := (⟨"KnotLaw$Foretold", "fillBars", "(LKnotLaw$Rope;)V"⟩, prog_3_method_8_code, 3, none, (0, 0), [
  [some (.iconst 0, 0, [], []), some (.istore_n 2, 0, [], []), some (.iload_n 2, 0, [], []), some (.bipush 8, 0, [], []), none, some (.if_icmp .ge 29, 0, [34], []), none, none, some (.aload_n 0, 0, [], []), some (.getfield 15, 0, [1, 1], [149]), none, none, some (.iload_n 2, 0, [], []), some (.aload_n 1, 0, [], []), some (.getfield 41, 0, [4, 0], [109])],
  [none, some (.getfield 45, 0, [0, 2], [71]), none, none, some (.iload_n 2, 0, [], []), some (.iaload, 0, [], []), some (.aload_n 1, 0, [], []), some (.getfield 31, 0, [4, 3], [116]), none, none, some (.iand, 0, [], []), some (.iastore, 0, [], []), some (.iinc 2 1, 0, [], []), none, none, some (.goto (-29), 0, [2], [])],
  [none, none, some (.return_, 0, [], [])]])
def km_X1_countWays : kn_M := (⟨"KnotLaw$Foretold", "countWays", "(I)I"⟩, prog_3_method_9_code, 4, some .int, (2, 44), [
  [some (.iload_n 1, 0, [], []), some (.aload_n 0, 0, [], []), some (.getfield 18, 0, [1, 2], [150]), none, none, some (.arraylength, 0, [], []), some (.iconst 1, 0, [], []), some (.isub, 0, [], []), some (.iand, 0, [], []), some (.istore_n 2, 0, [], []), some (.aload_n 0, 0, [], []), some (.getfield 18, 0, [1, 2], [150]), none, none, some (.iconst 0, 0, [], []), some (.iconst 1, 0, [], [])],
  [some (.iastore, 0, [], []), some (.iconst 1, 0, [], []), some (.istore_n 3, 0, [], []), some (.iload_n 3, 0, [], []), some (.iload_n 2, 0, [], []), some (.if_icmp .gt 28, 0, [49], []), none, none, some (.iload_n 3, 0, [], []), some (.iload_n 2, 0, [], []), some (.iconst (-1), 0, [], []), some (.ixor, 0, [], []), some (.iand, 0, [], []), some (.ifCond .ne 14, 0, [43], [])],
  [some (.aload_n 0, 0, [], []), some (.getfield 18, 0, [1, 2], [150]), none, none, some (.iload_n 3, 0, [], []), some (.aload_n 0, 0, [], []), some (.iload_n 3, 0, [], []), some (.invokevirtual 60, 0, [13, 1, 1, 4, 0], [495, 36, 497, 11]), none, none, some (.iastore, 0, [], []), some (.iinc 3 1, 0, [], []), none, none, some (.goto (-27), 0, [19], [])],
  [none, some (.aload_n 0, 0, [], []), some (.getfield 18, 0, [1, 2], [150]), none, none, some (.iload_n 2, 0, [], []), some (.iaload, 0, [], []), some (.ireturn, 0, [], [])]])
def km_X1_waysTo : kn_M := (⟨"KnotLaw$Foretold", "waysTo", "(I)I"⟩, prog_3_method_10_code, 4, some .int, (1, 21), [
  [some (.iconst 0, 0, [], []), some (.istore_n 2, 0, [], []), some (.iconst 0, 0, [], []), some (.istore_n 3, 0, [], []), some (.iload_n 3, 0, [], []), some (.bipush 8, 0, [], []), none, some (.if_icmp .ge 45, 0, [52], []), none, none, some (.iload_n 1, 0, [], []), some (.iload_n 3, 0, [], []), some (.invokestatic 37, 0, [97, 2, 6, 2, 1], [10, 32, 243]), none, none, some (.ifCond .eq 31, 0, [46], [])],
  [none, none, some (.aload_n 0, 0, [], []), some (.getfield 15, 0, [1, 1], [149]), none, none, some (.iload_n 3, 0, [], []), some (.iaload, 0, [], []), some (.iload_n 1, 0, [], []), some (.iconst (-1), 0, [], []), some (.ixor, 0, [], []), some (.iand, 0, [], []), some (.ifCond .ne 18, 0, [46], []), none, none, some (.iload_n 2, 0, [], [])],
  [some (.aload_n 0, 0, [], []), some (.getfield 18, 0, [1, 2], [150]), none, none, some (.iload_n 1, 0, [], []), some (.iconst 1, 0, [], []), some (.iload_n 3, 0, [], []), some (.ishl, 0, [], []), some (.iconst (-1), 0, [], []), some (.ixor, 0, [], []), some (.iand, 0, [], []), some (.iaload, 0, [], []), some (.iadd, 0, [], []), some (.istore_n 2, 0, [], []), some (.iinc 3 1, 0, [], [])],
  [none, some (.goto (-45), 0, [4], []), none, none, some (.iload_n 2, 0, [], []), some (.ireturn, 0, [], [])]])
def km_X2_init : kn_M := (⟨"KnotLaw$Past", "<init>", "()V"⟩, prog_4_method_1_code, 1, none, (1, 20), [
  [some (.aload_n 0, 0, [], []), some (.invokespecial 1, 0, [], [96, 49]), none, none, some (.aload_n 0, 0, [], []), some (.bipush 40, 0, [], []), none, some (.newarray .int, 0, [], [90]), none, some (.putfield 9, 0, [2, 0, 3], [97]), none, none, some (.aload_n 0, 0, [], []), some (.iconst 0, 0, [], []), some (.putfield 13, 0, [2, 1, 0], [99])],
  [none, some (.return_, 0, [], [])]])
def km_X2_makeRoom : kn_M := (⟨"KnotLaw$Past", "makeRoom", "()I"⟩, prog_4_method_2_code, 1, some .int, (1, 26), [
  [some (.aload_n 0, 0, [], []), some (.getfield 13, 0, [2, 1], [99]), none, none, some (.bipush 8, 0, [], []), none, some (.if_icmp .lt 24, 0, [30], []), none, none, some (.aload_n 0, 0, [], []), some (.getfield 9, 0, [2, 0], [97]), none, none, some (.iconst 5, 0, [], []), some (.aload_n 0, 0, [], []), some (.getfield 9, 0, [2, 0], [97])],
  [none, none, some (.iconst 0, 0, [], []), some (.bipush 35, 0, [], []), none, some (.invokestatic 17, 0, [], [358, 333, 332, 40]), none, none, some (.aload_n 0, 0, [], []), some (.bipush 7, 0, [], []), none, some (.putfield 13, 0, [2, 1, 0], [99]), none, none, some (.aload_n 0, 0, [], []), some (.dup, 0, [], [])],
  [some (.getfield 13, 0, [2, 1], [99]), none, none, some (.iconst 1, 0, [], []), some (.iadd, 0, [], []), some (.putfield 13, 0, [2, 1, 0], [99]), none, none, some (.aload_n 0, 0, [], []), some (.getfield 13, 0, [2, 1], [99]), none, none, some (.iconst 1, 0, [], []), some (.isub, 0, [], []), some (.iconst 5, 0, [], []), some (.imul, 0, [], [])],
  [some (.ireturn, 0, [], [])]])
def km_X2_become : kn_M := (⟨"KnotLaw$Past", "become", "(LKnotLaw$Past;)V"⟩, prog_4_method_3_code, 2, none, (1, 26), [
  [some (.aload_n 1, 0, [], []), some (.getfield 9, 0, [2, 0], [97]), none, none, some (.iconst 0, 0, [], []), some (.aload_n 0, 0, [], []), some (.getfield 9, 0, [2, 0], [97]), none, none, some (.iconst 0, 0, [], []), some (.bipush 40, 0, [], []), none, some (.invokestatic 17, 0, [], [358, 333, 332, 40]), none, none, some (.aload_n 0, 0, [], [])],
  [some (.aload_n 1, 0, [], []), some (.getfield 13, 0, [2, 1], [99]), none, none, some (.putfield 13, 0, [2, 1, 0], [99]), none, none, some (.return_, 0, [], [])]])
def km_X3_init : kn_M := (⟨"KnotLaw$Reader", "<init>", "()V"⟩, prog_5_method_1_code, 1, none, (2, 40), [
  [some (.aload_n 0, 0, [], []), some (.invokespecial 3, 0, [], [163, 49]), none, none, some (.aload_n 0, 0, [], []), some (.bipush 100, 0, [], []), none, some (.newarray .int, 0, [], [90]), none, some (.putfield 11, 0, [3, 0, 3], [166]), none, none, some (.aload_n 0, 0, [], []), some (.new 15, 0, [0, 5, 3, 3, 3, 3, 0], [164, 58, 34])],
  [some (.dup, 0, [], []), some (.invokespecial 17, 0, [0, 0, 0, 1, 1], [5, 34, 60]), none, none, some (.putfield 18, 0, [3, 1, 3], [167]), none, none, some (.aload_n 0, 0, [], []), some (.iconst 0, 0, [], []), some (.putfield 22, 0, [3, 2, 0], [169]), none, none, some (.aload_n 0, 0, [], []), some (.iconst 0, 0, [], []), some (.putfield 26, 0, [3, 3, 0], [170])],
  [none, some (.return_, 0, [], [])]])
def km_X3_addLetter : kn_M := (⟨"KnotLaw$Reader", "addLetter", "(I)I"⟩, prog_5_method_2_code, 2, some .int, (0, 0), [
  [some (.aload_n 0, 0, [], []), some (.getfield 22, 0, [3, 2], [169]), none, none, some (.ifCond .lt 12, 0, [16], []), none, none, some (.aload_n 0, 0, [], []), some (.getfield 22, 0, [3, 2], [169]), none, none, some (.bipush 100, 0, [], []), none, some (.if_icmp .lt 6, 0, [19], [])],
  [some (.bipush (-3), 0, [], []), none, some (.ireturn, 0, [], []), some (.aload_n 0, 0, [], []), some (.getfield 11, 0, [3, 0], [166]), none, none, some (.aload_n 0, 0, [], []), some (.getfield 22, 0, [3, 2], [169]), none, none, some (.iload_n 1, 0, [], []), some (.iastore, 0, [], []), some (.aload_n 0, 0, [], []), some (.dup, 0, [], []), some (.getfield 22, 0, [3, 2], [169])],
  [none, none, some (.iconst 1, 0, [], []), some (.iadd, 0, [], []), some (.putfield 22, 0, [3, 2, 0], [169]), none, none, some (.aload_n 0, 0, [], []), some (.getfield 22, 0, [3, 2], [169]), none, none, some (.ireturn, 0, [], [])]])
def km_X3_readTape : kn_M := (⟨"KnotLaw$Reader", "readTape", "()I"⟩, prog_5_method_3_code, 2, some .int, (5, 111), [
  [some (.aload_n 0, 0, [], []), some (.getfield 18, 0, [3, 1], [167]), none, none, some (.iconst 0, 0, [], []), some (.putfield 29, 0, [0, 4, 0], [77]), none, none, some (.aload_n 0, 0, [], []), some (.iconst 0, 0, [], []), some (.putfield 26, 0, [3, 3, 0], [170]), none, none, some (.aload_n 0, 0, [], []), some (.invokevirtual 30, 0, [20, 0, 3, 3, 0], [290, 37, 292, 1])],
  [none, some (.istore_n 1, 0, [], []), some (.aload_n 0, 0, [], []), some (.iconst 0, 0, [], []), some (.putfield 22, 0, [3, 2, 0], [169]), none, none, some (.iload_n 1, 0, [], []), some (.ifCond .eq 13, 0, [37], []), none, none, some (.aload_n 0, 0, [], []), some (.getfield 18, 0, [3, 1], [167]), none, none, some (.getfield 29, 0, [0, 4], [77])],
  [none, none, some (.goto 10, 0, [44], []), none, none, some (.bipush (-20), 0, [], []), none, some (.aload_n 0, 0, [], []), some (.getfield 26, 0, [3, 3], [170]), none, none, some (.isub, 0, [], []), some (.ireturn, 0, [], [])]])
def km_X3_readClauses : kn_M := (⟨"KnotLaw$Reader", "readClauses", "()Z"⟩, prog_5_method_4_code, 3, some .boolean, (4, 89), [
  [some (.iconst 1, 0, [], []), some (.istore_n 1, 0, [], []), some (.iload_n 1, 0, [], []), some (.bipush 8, 0, [], []), none, some (.if_icmp .gt 54, 0, [59], []), none, none, some (.aload_n 0, 0, [], []), some (.invokevirtual 34, 0, [21, 0, 3, 5, 0], [294, 37, 296, 2]), none, none, some (.ifCond .ne 5, 0, [17], []), none, none, some (.iconst 0, 0, [], [])],
  [some (.ireturn, 0, [], []), some (.aload_n 0, 0, [], []), some (.invokevirtual 37, 0, [24, 0, 3, 1, 0], [298, 37, 300, 3]), none, none, some (.istore_n 2, 0, [], []), some (.iload_n 2, 0, [], []), some (.iconst (-1), 0, [], []), some (.if_icmp .ne 5, 0, [29], []), none, none, some (.iconst 1, 0, [], []), some (.ireturn, 0, [], []), some (.iload_n 2, 0, [], []), some (.bipush 44, 0, [], [])],
  [some (.if_icmp .ne 9, 0, [41], []), none, none, some (.iload_n 1, 0, [], []), some (.bipush 8, 0, [], []), none, some (.if_icmp .ne 5, 0, [43], []), none, none, some (.iconst 0, 0, [], []), some (.ireturn, 0, [], []), some (.aload_n 0, 0, [], []), some (.dup, 0, [], []), some (.getfield 26, 0, [3, 3], [170])],
  [some (.iconst 1, 0, [], []), some (.iadd, 0, [], []), some (.putfield 26, 0, [3, 3, 0], [170]), none, none, some (.iinc 1 1, 0, [], []), none, none, some (.goto (-54), 0, [2], []), none, none, some (.iconst 0, 0, [], []), some (.ireturn, 0, [], [])]])
def km_X3_readClause : kn_M := (⟨"KnotLaw$Reader", "readClause", "()Z"⟩, prog_5_method_5_code, 5, some .boolean, (3, 65), [
  [some (.aload_n 0, 0, [], []), some (.invokevirtual 37, 0, [24, 0, 3, 1, 0], [298, 37, 300, 3]), none, none, some (.invokestatic 41, 0, [27, 1, 3, 1, 0], [306, 37, 307]), none, none, some (.istore_n 1, 0, [], []), some (.iload_n 1, 0, [], []), some (.ifCond .ge 5, 0, [14], []), none, none, some (.iconst 0, 0, [], []), some (.ireturn, 0, [], []), some (.aload_n 0, 0, [], []), some (.dup, 0, [], [])],
  [some (.getfield 26, 0, [3, 3], [170]), none, none, some (.iconst 1, 0, [], []), some (.iadd, 0, [], []), some (.putfield 26, 0, [3, 3, 0], [170]), none, none, some (.aload_n 0, 0, [], []), some (.invokevirtual 45, 0, [22, 0, 3, 3, 0], [309, 37, 311, 5]), none, none, some (.istore_n 2, 0, [], []), some (.iload_n 2, 0, [], []), some (.ifCond .ge 5, 0, [35], [])],
  [none, some (.iconst 0, 0, [], []), some (.ireturn, 0, [], []), some (.iconst 0, 0, [], []), some (.istore_n 3, 0, [], []), some (.aload_n 0, 0, [], []), some (.invokevirtual 37, 0, [24, 0, 3, 1, 0], [298, 37, 300, 3]), none, none, some (.bipush 47, 0, [], []), none, some (.if_icmp .ne 24, 0, [67], []), none, none, some (.aload_n 0, 0, [], []), some (.dup, 0, [], [])],
  [some (.getfield 26, 0, [3, 3], [170]), none, none, some (.iconst 1, 0, [], []), some (.iadd, 0, [], []), some (.putfield 26, 0, [3, 3, 0], [170]), none, none, some (.aload_n 0, 0, [], []), some (.invokevirtual 48, 0, [23, 0, 3, 5, 0], [317, 37, 319, 6]), none, none, some (.istore_n 3, 0, [], []), some (.iload_n 3, 0, [], []), some (.ifCond .ne 5, 0, [67], [])],
  [none, some (.iconst 0, 0, [], []), some (.ireturn, 0, [], []), some (.iconst 0, 0, [], []), some (.istore 4, 0, [], []), none, some (.aload_n 0, 0, [], []), some (.invokevirtual 37, 0, [24, 0, 3, 1, 0], [298, 37, 300, 3]), none, none, some (.bipush 64, 0, [], []), none, some (.if_icmp .ne 42, 0, [118], []), none, none, some (.aload_n 0, 0, [], [])],
  [some (.dup, 0, [], []), some (.getfield 26, 0, [3, 3], [170]), none, none, some (.iconst 1, 0, [], []), some (.iadd, 0, [], []), some (.putfield 26, 0, [3, 3, 0], [170]), none, none, some (.aload_n 0, 0, [], []), some (.invokevirtual 37, 0, [24, 0, 3, 1, 0], [298, 37, 300, 3]), none, none, some (.bipush 48, 0, [], []), none, some (.isub, 0, [], [])],
  [some (.istore 4, 0, [], []), none, some (.iload 4, 0, [], []), none, some (.invokestatic 51, 0, [93, 1, 6, 1, 1], [9, 32, 224]), none, none, some (.ifCond .ne 5, 0, [108], []), none, none, some (.iconst 0, 0, [], []), some (.ireturn, 0, [], []), some (.aload_n 0, 0, [], []), some (.dup, 0, [], []), some (.getfield 26, 0, [3, 3], [170])],
  [none, some (.iconst 1, 0, [], []), some (.iadd, 0, [], []), some (.putfield 26, 0, [3, 3, 0], [170]), none, none, some (.aload_n 0, 0, [], []), some (.getfield 18, 0, [3, 1], [167]), none, none, some (.iload_n 1, 0, [], []), some (.iload_n 2, 0, [], []), some (.iload_n 3, 0, [], []), some (.iload 4, 0, [], []), none, some (.invokevirtual 55, 0, [1, 4, 0, 6, 0], [322, 34, 231, 232])],
  [none, none, some (.ifCond .lt 7, 0, [137], []), none, none, some (.iconst 1, 0, [], []), some (.goto 4, 0, [138], []), none, none, some (.iconst 0, 0, [], []), some (.ireturn, 0, [], [])]])
def km_X3_readHolds : kn_M := (⟨"KnotLaw$Reader", "readHolds", "()I"⟩, prog_5_method_6_code, 3, some .int, (2, 41), [
  [some (.aload_n 0, 0, [], []), some (.invokevirtual 37, 0, [24, 0, 3, 1, 0], [298, 37, 300, 3]), none, none, some (.invokestatic 59, 0, [26, 1, 3, 1, 0], [313, 37, 314]), none, none, some (.ifCond .ne 5, 0, [12], []), none, none, some (.iconst (-1), 0, [], []), some (.ireturn, 0, [], []), some (.aload_n 0, 0, [], []), some (.getfield 26, 0, [3, 3], [170])],
  [some (.istore_n 1, 0, [], []), some (.aload_n 0, 0, [], []), some (.aload_n 0, 0, [], []), some (.getfield 26, 0, [3, 3], [170]), none, none, some (.invokevirtual 62, 0, [25, 1, 3, 2, 0], [302, 37, 304, 4]), none, none, some (.bipush 48, 0, [], []), none, some (.isub, 0, [], []), some (.istore_n 2, 0, [], []), some (.aload_n 0, 0, [], []), some (.dup, 0, [], []), some (.getfield 26, 0, [3, 3], [170])],
  [none, none, some (.iconst 1, 0, [], []), some (.iadd, 0, [], []), some (.putfield 26, 0, [3, 3, 0], [170]), none, none, some (.aload_n 0, 0, [], []), some (.aload_n 0, 0, [], []), some (.getfield 26, 0, [3, 3], [170]), none, none, some (.invokevirtual 62, 0, [25, 1, 3, 2, 0], [302, 37, 304, 4]), none, none, some (.invokestatic 59, 0, [26, 1, 3, 1, 0], [313, 37, 314])],
  [none, none, some (.ifCond .eq 30, 0, [80], []), none, none, some (.bipush 10, 0, [], []), none, some (.iload_n 2, 0, [], []), some (.imul, 0, [], []), some (.aload_n 0, 0, [], []), some (.aload_n 0, 0, [], []), some (.getfield 26, 0, [3, 3], [170]), none, none, some (.invokevirtual 62, 0, [25, 1, 3, 2, 0], [302, 37, 304, 4])],
  [none, some (.iadd, 0, [], []), some (.bipush 48, 0, [], []), none, some (.isub, 0, [], []), some (.istore_n 2, 0, [], []), some (.aload_n 0, 0, [], []), some (.dup, 0, [], []), some (.getfield 26, 0, [3, 3], [170]), none, none, some (.iconst 1, 0, [], []), some (.iadd, 0, [], []), some (.putfield 26, 0, [3, 3, 0], [170])],
  [some (.iload_n 2, 0, [], []), some (.iconst 1, 0, [], []), some (.bipush 20, 0, [], []), none, some (.invokestatic 65, 0, [91, 3, 6, 3, 1], [8, 32, 221]), none, none, some (.ifCond .ne 10, 0, [97], []), none, none, some (.aload_n 0, 0, [], []), some (.iload_n 1, 0, [], []), some (.putfield 26, 0, [3, 3, 0], [170]), none, none, some (.iconst (-1), 0, [], [])],
  [some (.ireturn, 0, [], []), some (.iload_n 2, 0, [], []), some (.ireturn, 0, [], [])]])
def km_X3_readBarred : kn_M := (⟨"KnotLaw$Reader", "readBarred", "()I"⟩, prog_5_method_7_code, 5, some .int, (2, 41), [
  [some (.iconst 0, 0, [], []), some (.istore_n 1, 0, [], []), some (.iconst 0, 0, [], []), some (.istore_n 2, 0, [], []), some (.iconst 0, 0, [], []), some (.istore_n 3, 0, [], []), some (.iload_n 3, 0, [], []), some (.bipush 8, 0, [], []), none, some (.if_icmp .ge 60, 0, [69], []), none, none, some (.aload_n 0, 0, [], []), some (.invokevirtual 37, 0, [24, 0, 3, 1, 0], [298, 37, 300, 3])],
  [some (.bipush 48, 0, [], []), none, some (.isub, 0, [], []), some (.istore 4, 0, [], []), none, some (.iload 4, 0, [], []), none, some (.iload_n 2, 0, [], []), some (.if_icmp .lt 15, 0, [39], []), none, none, some (.iload 4, 0, [], []), none, some (.aload_n 0, 0, [], []), some (.getfield 18, 0, [3, 1], [167])],
  [none, some (.getfield 29, 0, [0, 4], [77]), none, none, some (.if_icmp .lt 5, 0, [41], []), none, none, some (.iload_n 1, 0, [], []), some (.ireturn, 0, [], []), some (.iload_n 1, 0, [], []), some (.iconst 1, 0, [], []), some (.iload 4, 0, [], []), none, some (.ishl, 0, [], []), some (.ior, 0, [], []), some (.istore_n 1, 0, [], [])],
  [some (.iload 4, 0, [], []), none, some (.iconst 1, 0, [], []), some (.iadd, 0, [], []), some (.istore_n 2, 0, [], []), some (.aload_n 0, 0, [], []), some (.dup, 0, [], []), some (.getfield 26, 0, [3, 3], [170]), none, none, some (.iconst 1, 0, [], []), some (.iadd, 0, [], []), some (.putfield 26, 0, [3, 3, 0], [170]), none, none, some (.iinc 3 1, 0, [], [])],
  [none, none, some (.goto (-60), 0, [6], []), none, none, some (.iload_n 1, 0, [], []), some (.ireturn, 0, [], [])]])
def km_X3_nextLetter : kn_M := (⟨"KnotLaw$Reader", "nextLetter", "()I"⟩, prog_5_method_8_code, 1, some .int, (1, 21), [
  [some (.aload_n 0, 0, [], []), some (.getfield 26, 0, [3, 3], [170]), none, none, some (.aload_n 0, 0, [], []), some (.getfield 22, 0, [3, 2], [169]), none, none, some (.if_icmp .ge 29, 0, [37], []), none, none, some (.aload_n 0, 0, [], []), some (.aload_n 0, 0, [], []), some (.getfield 26, 0, [3, 3], [170])],
  [some (.invokevirtual 62, 0, [25, 1, 3, 2, 0], [302, 37, 304, 4]), none, none, some (.bipush 32, 0, [], []), none, some (.if_icmp .ne 16, 0, [37], []), none, none, some (.aload_n 0, 0, [], []), some (.dup, 0, [], []), some (.getfield 26, 0, [3, 3], [170]), none, none, some (.iconst 1, 0, [], []), some (.iadd, 0, [], []), some (.putfield 26, 0, [3, 3, 0], [170])],
  [none, none, some (.goto (-34), 0, [0], []), none, none, some (.aload_n 0, 0, [], []), some (.aload_n 0, 0, [], []), some (.getfield 26, 0, [3, 3], [170]), none, none, some (.invokevirtual 62, 0, [25, 1, 3, 2, 0], [302, 37, 304, 4]), none, none, some (.ireturn, 0, [], [])]])
def km_X3_letterAt : kn_M := (⟨"KnotLaw$Reader", "letterAt", "(I)I"⟩, prog_5_method_9_code, 2, some .int, (0, 0), [
  [some (.iload_n 1, 0, [], []), some (.ifCond .lt 26, 0, [27], []), none, none, some (.iload_n 1, 0, [], []), some (.aload_n 0, 0, [], []), some (.getfield 22, 0, [3, 2], [169]), none, none, some (.if_icmp .ge 18, 0, [27], []), none, none, some (.iload_n 1, 0, [], []), some (.bipush 100, 0, [], []), none, some (.if_icmp .ge 12, 0, [27], [])],
  [none, none, some (.aload_n 0, 0, [], []), some (.getfield 11, 0, [3, 0], [166]), none, none, some (.iload_n 1, 0, [], []), some (.iaload, 0, [], []), some (.goto 4, 0, [28], []), none, none, some (.iconst (-1), 0, [], []), some (.ireturn, 0, [], [])]])
def km_X3_isDigit : kn_M := (⟨"KnotLaw$Reader", "isDigit", "(I)Z"⟩, prog_5_method_10_code, 1, some .boolean, (0, 0), [
  [some (.iload_n 0, 0, [], []), some (.bipush 48, 0, [], []), none, some (.if_icmp .lt 13, 0, [16], []), none, none, some (.iload_n 0, 0, [], []), some (.bipush 57, 0, [], []), none, some (.if_icmp .gt 7, 0, [16], []), none, none, some (.iconst 1, 0, [], []), some (.goto 4, 0, [17], [])],
  [some (.iconst 0, 0, [], []), some (.ireturn, 0, [], [])]])
def km_X3_kindOf : kn_M := (⟨"KnotLaw$Reader", "kindOf", "(I)I"⟩, prog_5_method_11_code, 1, some .int, (0, 0), [
  [some (.iload_n 0, 0, [], []), some (.tableswitch 77 103 115 #[75, 67, 77, 77, 77, 71, 77, 77, 73, 77, 77, 77, 69], 67, [78, 76, 68, 78, 78, 78, 72, 78, 78, 74, 78, 78, 78, 70], [])],
  [],
  [],
  [],
  [none, none, none, none, some (.iconst 0, 0, [], []), some (.ireturn, 0, [], []), some (.iconst 1, 0, [], []), some (.ireturn, 0, [], []), some (.iconst 2, 0, [], []), some (.ireturn, 0, [], []), some (.iconst 3, 0, [], []), some (.ireturn, 0, [], []), some (.iconst 4, 0, [], []), some (.ireturn, 0, [], []), some (.iconst (-1), 0, [], []), some (.ireturn, 0, [], [])]])
def km_X4_init : kn_M := (⟨"KnotLaw$Rope", "<init>", "()V"⟩, prog_6_method_1_code, 1, none, (2, 40), [
  [some (.aload_n 0, 0, [], []), some (.invokespecial 3, 0, [], [56, 49]), none, none, some (.aload_n 0, 0, [], []), some (.new 9, 0, [0, 5, 3, 3, 3, 3, 0], [57, 58, 34]), none, none, some (.dup, 0, [], []), some (.invokespecial 11, 0, [0, 0, 0, 1, 1], [1, 34, 60]), none, none, some (.putfield 12, 0, [4, 0, 3], [107]), none, none, some (.aload_n 0, 0, [], [])],
  [some (.new 18, 0, [2, 2, 3, 0], [91, 92, 35]), none, none, some (.dup, 0, [], []), some (.invokespecial 20, 0, [14, 0, 2, 1, 1], [2, 35, 94]), none, none, some (.putfield 21, 0, [4, 1, 3], [110]), none, none, some (.aload_n 0, 0, [], []), some (.bipush 8, 0, [], []), none, some (.newarray .int, 0, [], [90]), none, some (.putfield 25, 0, [4, 2, 3], [112])],
  [none, none, some (.aload_n 0, 0, [], []), some (.iconst 0, 0, [], []), some (.putfield 29, 0, [4, 3, 0], [114]), none, none, some (.aload_n 0, 0, [], []), some (.iconst 0, 0, [], []), some (.putfield 33, 0, [4, 4, 0], [117]), none, none, some (.aload_n 0, 0, [], []), some (.iconst 0, 0, [], []), some (.putfield 36, 0, [4, 5, 0], [119])],
  [none, some (.aload_n 0, 0, [], []), some (.iconst 0, 0, [], []), some (.putfield 39, 0, [4, 6, 0], [121]), none, none, some (.aload_n 0, 0, [], []), some (.iconst 1, 0, [], []), some (.putfield 42, 0, [4, 7, 0], [123]), none, none, some (.return_, 0, [], [])]])
def km_X4_addClause : kn_M := (⟨"KnotLaw$Rope", "addClause", "(IIII)I"⟩, prog_6_method_2_code, 6, some .int, (1, 25), [
  [some (.aload_n 0, 0, [], []), some (.getfield 12, 0, [4, 0], [107]), none, none, some (.iload_n 1, 0, [], []), some (.iload_n 2, 0, [], []), some (.iload_n 3, 0, [], []), some (.iload 4, 0, [], []), none, some (.invokevirtual 45, 0, [1, 4, 0, 6, 0], [230, 34, 231, 232]), none, none, some (.istore 5, 0, [], []), none, some (.iload 5, 0, [], [])],
  [some (.ifCond .lt 24, 0, [40], []), none, none, some (.aload_n 0, 0, [], []), some (.dup, 0, [], []), some (.getfield 29, 0, [4, 3], [114]), none, none, some (.iconst 1, 0, [], []), some (.iload 5, 0, [], []), none, some (.ishl, 0, [], []), some (.ior, 0, [], []), some (.putfield 29, 0, [4, 3, 0], [114])],
  [some (.aload_n 0, 0, [], []), some (.getfield 21, 0, [4, 1], [110]), none, none, some (.iconst 0, 0, [], []), some (.putfield 49, 0, [2, 1, 0], [100]), none, none, some (.iload 5, 0, [], []), none, some (.ireturn, 0, [], [])]])
def km_X4_startWith : kn_M := (⟨"KnotLaw$Rope", "startWith", "(LKnotLaw$Clauses;)V"⟩, prog_6_method_3_code, 2, none, (2, 47), [
  [some (.aload_n 0, 0, [], []), some (.getfield 12, 0, [4, 0], [107]), none, none, some (.aload_n 1, 0, [], []), some (.invokevirtual 52, 0, [3, 1, 0, 2, 0], [327, 34, 328, 329]), none, none, some (.aload_n 0, 0, [], []), some (.getfield 21, 0, [4, 1], [110]), none, none, some (.iconst 0, 0, [], []), some (.putfield 49, 0, [2, 1, 0], [100])],
  [some (.aload_n 0, 0, [], []), some (.iconst 1, 0, [], []), some (.aload_n 0, 0, [], []), some (.getfield 12, 0, [4, 0], [107]), none, none, some (.getfield 56, 0, [0, 4], [78]), none, none, some (.ishl, 0, [], []), some (.iconst 1, 0, [], []), some (.isub, 0, [], []), some (.putfield 29, 0, [4, 3, 0], [114]), none, none, some (.aload_n 0, 0, [], [])],
  [some (.iconst 0, 0, [], []), some (.putfield 33, 0, [4, 4, 0], [117]), none, none, some (.aload_n 0, 0, [], []), some (.iconst 0, 0, [], []), some (.putfield 36, 0, [4, 5, 0], [119]), none, none, some (.aload_n 0, 0, [], []), some (.iconst 0, 0, [], []), some (.putfield 39, 0, [4, 6, 0], [121]), none, none, some (.return_, 0, [], [])]])
def km_X4_become : kn_M := (⟨"KnotLaw$Rope", "become", "(LKnotLaw$Rope;)V"⟩, prog_6_method_4_code, 2, none, (2, 47), [
  [some (.aload_n 0, 0, [], []), some (.getfield 12, 0, [4, 0], [107]), none, none, some (.aload_n 1, 0, [], []), some (.getfield 12, 0, [4, 0], [107]), none, none, some (.invokevirtual 52, 0, [3, 1, 0, 2, 0], [327, 34, 328, 329]), none, none, some (.aload_n 0, 0, [], []), some (.getfield 21, 0, [4, 1], [110]), none, none, some (.aload_n 1, 0, [], [])],
  [some (.getfield 21, 0, [4, 1], [110]), none, none, some (.invokevirtual 57, 0, [16, 1, 2, 2, 0], [541, 35, 542, 543]), none, none, some (.aload_n 0, 0, [], []), some (.aload_n 1, 0, [], []), some (.getfield 29, 0, [4, 3], [114]), none, none, some (.putfield 29, 0, [4, 3, 0], [114]), none, none, some (.aload_n 0, 0, [], []), some (.aload_n 1, 0, [], [])],
  [some (.getfield 33, 0, [4, 4], [117]), none, none, some (.putfield 33, 0, [4, 4, 0], [117]), none, none, some (.aload_n 0, 0, [], []), some (.aload_n 1, 0, [], []), some (.getfield 36, 0, [4, 5], [119]), none, none, some (.putfield 36, 0, [4, 5, 0], [119]), none, none, some (.aload_n 0, 0, [], []), some (.aload_n 1, 0, [], [])],
  [some (.getfield 39, 0, [4, 6], [121]), none, none, some (.putfield 39, 0, [4, 6, 0], [121]), none, none, some (.aload_n 0, 0, [], []), some (.aload_n 1, 0, [], []), some (.getfield 42, 0, [4, 7], [123]), none, none, some (.putfield 42, 0, [4, 7, 0], [123]), none, none, some (.return_, 0, [], [])]])
def km_X4_firmBy : kn_M := (⟨"KnotLaw$Rope", "firmBy", "(III)I"⟩, prog_6_method_5_code, 5, some .int, (0, 0), [
  [some (.aload_n 0, 0, [], []), some (.getfield 36, 0, [4, 5], [119]), none, none, some (.iconst 1, 0, [], []), some (.if_icmp .ne 9, 0, [14], []), none, none, some (.iconst 2, 0, [], []), some (.iload_n 2, 0, [], []), some (.imul, 0, [], []), some (.goto 4, 0, [15], []), none, none, some (.iload_n 2, 0, [], []), some (.istore 4, 0, [], [])],
  [none, some (.iload_n 1, 0, [], []), some (.tableswitch 72 0 4 #[72, 34, 40, 45, 56], 34, [90, 90, 52, 58, 63, 74], [])],
  [],
  [none, none, none, none, some (.iload 4, 0, [], []), none, some (.bipush 10, 0, [], []), none, some (.iadd, 0, [], []), some (.ireturn, 0, [], []), some (.iload 4, 0, [], []), none, some (.iconst 2, 0, [], []), some (.idiv, 0, [], []), some (.ireturn, 0, [], []), some (.iload 4, 0, [], [])],
  [none, some (.bipush 10, 0, [], []), none, some (.iadd, 0, [], []), some (.iload_n 3, 0, [], []), some (.bipush 10, 0, [], []), none, some (.idiv, 0, [], []), some (.iadd, 0, [], []), some (.ireturn, 0, [], []), some (.iload_n 3, 0, [], []), some (.bipush 7, 0, [], []), none, some (.irem, 0, [], []), some (.ifCond .ne 7, 0, [85], [])],
  [none, some (.iconst 0, 0, [], []), some (.goto 7, 0, [89], []), none, none, some (.iload 4, 0, [], []), none, some (.iconst 2, 0, [], []), some (.idiv, 0, [], []), some (.ireturn, 0, [], []), some (.iload 4, 0, [], []), none, some (.ireturn, 0, [], [])]])
def km_X4_firmOnDay : kn_M := (⟨"KnotLaw$Rope", "firmOnDay", "(II)I"⟩, prog_6_method_6_code, 3, some .int, (1, 24), [
  [some (.aload_n 0, 0, [], []), some (.aload_n 0, 0, [], []), some (.getfield 12, 0, [4, 0], [107]), none, none, some (.getfield 60, 0, [0, 0], [65]), none, none, some (.iload_n 1, 0, [], []), some (.iaload, 0, [], []), some (.aload_n 0, 0, [], []), some (.getfield 12, 0, [4, 0], [107]), none, none, some (.getfield 63, 0, [0, 1], [68])],
  [none, some (.iload_n 1, 0, [], []), some (.iaload, 0, [], []), some (.iload_n 2, 0, [], []), some (.invokevirtual 66, 0, [32, 3, 4, 5, 0], [258, 33, 259, 260]), none, none, some (.ireturn, 0, [], [])]])
def km_X4_firmOf : kn_M := (⟨"KnotLaw$Rope", "firmOf", "(I)I"⟩, prog_6_method_7_code, 2, some .int, (2, 46), [
  [some (.aload_n 0, 0, [], []), some (.iload_n 1, 0, [], []), some (.aload_n 0, 0, [], []), some (.getfield 39, 0, [4, 6], [121]), none, none, some (.invokevirtual 70, 0, [33, 2, 4, 3, 0], [254, 33, 255, 256]), none, none, some (.ireturn, 0, [], [])]])
def km_X4_firmTogether : kn_M := (⟨"KnotLaw$Rope", "firmTogether", "()I"⟩, prog_6_method_8_code, 3, some .int, (3, 67), [
  [some (.iconst 0, 0, [], []), some (.istore_n 1, 0, [], []), some (.iconst 0, 0, [], []), some (.istore_n 2, 0, [], []), some (.iload_n 2, 0, [], []), some (.bipush 8, 0, [], []), none, some (.if_icmp .ge 28, 0, [35], []), none, none, some (.aload_n 0, 0, [], []), some (.getfield 29, 0, [4, 3], [114]), none, none, some (.iload_n 2, 0, [], []), some (.invokestatic 74, 0, [97, 2, 6, 2, 1], [7, 32, 243])],
  [none, none, some (.ifCond .eq 11, 0, [29], []), none, none, some (.iload_n 1, 0, [], []), some (.aload_n 0, 0, [], []), some (.iload_n 2, 0, [], []), some (.invokevirtual 78, 0, [34, 1, 4, 2, 0], [367, 33, 251, 252]), none, none, some (.iadd, 0, [], []), some (.istore_n 1, 0, [], []), some (.iinc 2 1, 0, [], [])],
  [some (.goto (-28), 0, [4], []), none, none, some (.iload_n 1, 0, [], []), some (.ireturn, 0, [], [])]])
def km_X4_weigh : kn_M := (⟨"KnotLaw$Rope", "weigh", "()V"⟩, prog_6_method_9_code, 2, none, (3, 67), [
  [some (.iconst 0, 0, [], []), some (.istore_n 1, 0, [], []), some (.iload_n 1, 0, [], []), some (.bipush 8, 0, [], []), none, some (.if_icmp .ge 20, 0, [25], []), none, none, some (.aload_n 0, 0, [], []), some (.getfield 25, 0, [4, 2], [112]), none, none, some (.iload_n 1, 0, [], []), some (.aload_n 0, 0, [], []), some (.iload_n 1, 0, [], []), some (.invokevirtual 78, 0, [34, 1, 4, 2, 0], [367, 33, 251, 252])],
  [none, none, some (.iastore, 0, [], []), some (.iinc 1 1, 0, [], []), none, none, some (.goto (-20), 0, [2], []), none, none, some (.return_, 0, [], [])]])
def km_X4_freeAmong : kn_M := (⟨"KnotLaw$Rope", "freeAmong", "(I)I"⟩, prog_6_method_10_code, 4, some .int, (1, 21), [
  [some (.iconst 0, 0, [], []), some (.istore_n 2, 0, [], []), some (.iconst 0, 0, [], []), some (.istore_n 3, 0, [], []), some (.iload_n 3, 0, [], []), some (.bipush 8, 0, [], []), none, some (.if_icmp .ge 37, 0, [44], []), none, none, some (.iload_n 1, 0, [], []), some (.iload_n 3, 0, [], []), some (.invokestatic 74, 0, [97, 2, 6, 2, 1], [7, 32, 243]), none, none, some (.ifCond .eq 23, 0, [38], [])],
  [none, none, some (.aload_n 0, 0, [], []), some (.getfield 12, 0, [4, 0], [107]), none, none, some (.getfield 82, 0, [0, 2], [72]), none, none, some (.iload_n 3, 0, [], []), some (.iaload, 0, [], []), some (.iload_n 1, 0, [], []), some (.iand, 0, [], []), some (.ifCond .ne 9, 0, [38], [])],
  [some (.iload_n 2, 0, [], []), some (.iconst 1, 0, [], []), some (.iload_n 3, 0, [], []), some (.ishl, 0, [], []), some (.ior, 0, [], []), some (.istore_n 2, 0, [], []), some (.iinc 3 1, 0, [], []), none, none, some (.goto (-37), 0, [4], []), none, none, some (.iload_n 2, 0, [], []), some (.ireturn, 0, [], [])]])
def km_X4_fallsAmong : kn_M := (⟨"KnotLaw$Rope", "fallsAmong", "(II)I"⟩, prog_6_method_11_code, 6, some .int, (2, 44), [
  [some (.aload_n 0, 0, [], []), some (.iload_n 1, 0, [], []), some (.invokevirtual 85, 0, [37, 1, 4, 4, 0], [372, 33, 246, 247]), none, none, some (.istore_n 3, 0, [], []), some (.iconst 0, 0, [], []), some (.istore 4, 0, [], []), none, some (.iconst 0, 0, [], []), some (.istore 5, 0, [], []), none, some (.iload 5, 0, [], []), none, some (.bipush 8, 0, [], [])],
  [some (.if_icmp .ge 38, 0, [54], []), none, none, some (.iload_n 3, 0, [], []), some (.iload 5, 0, [], []), none, some (.invokestatic 74, 0, [97, 2, 6, 2, 1], [7, 32, 243]), none, none, some (.ifCond .eq 23, 0, [48], []), none, none, some (.aload_n 0, 0, [], []), some (.getfield 25, 0, [4, 2], [112])],
  [some (.iload 5, 0, [], []), none, some (.iaload, 0, [], []), some (.iload_n 2, 0, [], []), some (.if_icmp .gt 12, 0, [48], []), none, none, some (.iload 4, 0, [], []), none, some (.iconst 1, 0, [], []), some (.iload 5, 0, [], []), none, some (.ishl, 0, [], []), some (.ior, 0, [], []), some (.istore 4, 0, [], [])],
  [some (.iinc 5 1, 0, [], []), none, none, some (.goto (-39), 0, [12], []), none, none, some (.iload 4, 0, [], []), none, some (.ireturn, 0, [], [])]])
def km_X4_boundParties : kn_M := (⟨"KnotLaw$Rope", "boundParties", "()I"⟩, prog_6_method_12_code, 3, some .int, (1, 23), [
  [some (.iconst 0, 0, [], []), some (.istore_n 1, 0, [], []), some (.iconst 0, 0, [], []), some (.istore_n 2, 0, [], []), some (.iload_n 2, 0, [], []), some (.iconst 4, 0, [], []), some (.if_icmp .ge 31, 0, [37], []), none, none, some (.aload_n 0, 0, [], []), some (.getfield 12, 0, [4, 0], [107]), none, none, some (.iload_n 2, 0, [], []), some (.invokevirtual 88, 0, [2, 1, 0, 4, 0], [342, 34, 267, 268])],
  [none, some (.aload_n 0, 0, [], []), some (.getfield 29, 0, [4, 3], [114]), none, none, some (.iand, 0, [], []), some (.ifCond .eq 9, 0, [31], []), none, none, some (.iload_n 1, 0, [], []), some (.iconst 1, 0, [], []), some (.iload_n 2, 0, [], []), some (.ishl, 0, [], []), some (.ior, 0, [], []), some (.istore_n 1, 0, [], []), some (.iinc 2 1, 0, [], [])],
  [none, none, some (.goto (-30), 0, [4], []), none, none, some (.iload_n 1, 0, [], []), some (.ireturn, 0, [], [])]])
def km_X4_neededFor : kn_M := (⟨"KnotLaw$Rope", "neededFor", "(I)I"⟩, prog_6_method_13_code, 4, some .int, (1, 21), [
  [some (.iload_n 1, 0, [], []), some (.aload_n 0, 0, [], []), some (.getfield 29, 0, [4, 3], [114]), none, none, some (.iand, 0, [], []), some (.istore_n 2, 0, [], []), some (.bipush 7, 0, [], []), none, some (.istore_n 3, 0, [], []), some (.iload_n 3, 0, [], []), some (.ifCond .lt 34, 0, [45], []), none, none, some (.iload_n 2, 0, [], []), some (.iload_n 3, 0, [], [])],
  [some (.invokestatic 74, 0, [97, 2, 6, 2, 1], [7, 32, 243]), none, none, some (.ifCond .eq 20, 0, [39], []), none, none, some (.iload_n 2, 0, [], []), some (.aload_n 0, 0, [], []), some (.getfield 12, 0, [4, 0], [107]), none, none, some (.getfield 82, 0, [0, 2], [72]), none, none, some (.iload_n 3, 0, [], []), some (.iaload, 0, [], [])],
  [some (.aload_n 0, 0, [], []), some (.getfield 29, 0, [4, 3], [114]), none, none, some (.iand, 0, [], []), some (.ior, 0, [], []), some (.istore_n 2, 0, [], []), some (.iinc 3 (-1), 0, [], []), none, none, some (.goto (-32), 0, [10], []), none, none, some (.iload_n 2, 0, [], []), some (.ireturn, 0, [], [])]])
def km_X4_firmestUpTo : kn_M := (⟨"KnotLaw$Rope", "firmestUpTo", "(I)I"⟩, prog_6_method_14_code, 5, some .int, (3, 67), [
  [some (.aload_n 0, 0, [], []), some (.iconst 1, 0, [], []), some (.iload_n 1, 0, [], []), some (.ishl, 0, [], []), some (.invokevirtual 91, 0, [40, 1, 4, 4, 0], [431, 33, 432, 433]), none, none, some (.istore_n 2, 0, [], []), some (.iconst 0, 0, [], []), some (.istore_n 3, 0, [], []), some (.iconst 0, 0, [], []), some (.istore 4, 0, [], []), none, some (.iload 4, 0, [], []), none, some (.bipush 8, 0, [], [])],
  [none, some (.if_icmp .ge 29, 0, [46], []), none, none, some (.iload_n 2, 0, [], []), some (.iload 4, 0, [], []), none, some (.invokestatic 74, 0, [97, 2, 6, 2, 1], [7, 32, 243]), none, none, some (.ifCond .eq 14, 0, [40], []), none, none, some (.iload_n 3, 0, [], []), some (.aload_n 0, 0, [], []), some (.iload 4, 0, [], [])],
  [none, some (.invokevirtual 78, 0, [34, 1, 4, 2, 0], [367, 33, 251, 252]), none, none, some (.invokestatic 94, 0, [0], [435, 436, 41]), none, none, some (.istore_n 3, 0, [], []), some (.iinc 4 1, 0, [], []), none, none, some (.goto (-30), 0, [13], []), none, none, some (.iload_n 3, 0, [], []), some (.ireturn, 0, [], [])]])
def km_X4_undoBy : kn_M := (⟨"KnotLaw$Rope", "undoBy", "(I)I"⟩, prog_6_method_15_code, 3, some .int, (4, 88), [
  [some (.aload_n 0, 0, [], []), some (.invokevirtual 99, 0, [36, 0, 4, 2, 0], [363, 33, 364, 365]), none, none, some (.aload_n 0, 0, [], []), some (.aload_n 0, 0, [], []), some (.getfield 29, 0, [4, 3], [114]), none, none, some (.iload_n 1, 0, [], []), some (.invokevirtual 102, 0, [38, 2, 4, 6, 0], [368, 33, 369, 370]), none, none, some (.istore_n 2, 0, [], []), some (.aload_n 0, 0, [], []), some (.dup, 0, [], [])],
  [some (.getfield 29, 0, [4, 3], [114]), none, none, some (.iload_n 2, 0, [], []), some (.iconst (-1), 0, [], []), some (.ixor, 0, [], []), some (.iand, 0, [], []), some (.putfield 29, 0, [4, 3, 0], [114]), none, none, some (.iload_n 2, 0, [], []), some (.ireturn, 0, [], [])]])
def km_X4_driftOneDay : kn_M := (⟨"KnotLaw$Rope", "driftOneDay", "()V"⟩, prog_6_method_16_code, 1, none, (5, 110), [
  [some (.aload_n 0, 0, [], []), some (.aload_n 0, 0, [], []), some (.getfield 42, 0, [4, 7], [123]), none, none, some (.ldc 105, 0, [1103515245], [401]), none, some (.imul, 0, [], []), some (.sipush 12345, 0, [], []), none, none, some (.iadd, 0, [], []), some (.ldc 106, 0, [2147483647], [402]), none, some (.iand, 0, [], []), some (.putfield 42, 0, [4, 7, 0], [123])],
  [none, none, some (.aload_n 0, 0, [], []), some (.aload_n 0, 0, [], []), some (.getfield 42, 0, [4, 7], [123]), none, none, some (.ldc 107, 0, [65536], [403]), none, some (.idiv, 0, [], []), some (.iconst 3, 0, [], []), some (.irem, 0, [], []), some (.ifCond .ne 7, 0, [35], []), none, none, some (.iconst 1, 0, [], [])],
  [some (.goto 4, 0, [36], []), none, none, some (.iconst 0, 0, [], []), some (.putfield 36, 0, [4, 5, 0], [119]), none, none, some (.aload_n 0, 0, [], []), some (.aload_n 0, 0, [], []), some (.getfield 42, 0, [4, 7], [123]), none, none, some (.sipush 128, 0, [], []), none, none, some (.idiv, 0, [], [])],
  [some (.bipush 30, 0, [], []), none, some (.irem, 0, [], []), some (.invokevirtual 108, 0, [42, 1, 4, 3, 0], [404, 33, 360, 361]), none, none, some (.pop, 0, [], []), some (.aload_n 0, 0, [], []), some (.dup, 0, [], []), some (.getfield 39, 0, [4, 6], [121]), none, none, some (.iconst 1, 0, [], []), some (.iadd, 0, [], []), some (.putfield 39, 0, [4, 6, 0], [121])],
  [none, some (.return_, 0, [], [])]])
def km_X4_remember : kn_M := (⟨"KnotLaw$Rope", "remember", "()V"⟩, prog_6_method_17_code, 2, none, (2, 46), [
  [some (.aload_n 0, 0, [], []), some (.getfield 21, 0, [4, 1], [110]), none, none, some (.invokevirtual 111, 0, [15, 0, 2, 1, 0], [354, 35, 355, 356]), none, none, some (.istore_n 1, 0, [], []), some (.iload_n 1, 0, [], []), some (.ifCond .lt 17, 0, [26], []), none, none, some (.iload_n 1, 0, [], []), some (.iconst 5, 0, [], []), some (.iadd, 0, [], []), some (.aload_n 0, 0, [], [])],
  [some (.getfield 21, 0, [4, 1], [110]), none, none, some (.getfield 115, 0, [2, 0], [98]), none, none, some (.arraylength, 0, [], []), some (.if_icmp .le 4, 0, [27], []), none, none, some (.return_, 0, [], []), some (.aload_n 0, 0, [], []), some (.getfield 21, 0, [4, 1], [110]), none, none, some (.getfield 115, 0, [2, 0], [98])],
  [none, none, some (.iload_n 1, 0, [], []), some (.aload_n 0, 0, [], []), some (.getfield 29, 0, [4, 3], [114]), none, none, some (.iastore, 0, [], []), some (.aload_n 0, 0, [], []), some (.getfield 21, 0, [4, 1], [110]), none, none, some (.getfield 115, 0, [2, 0], [98]), none, none, some (.iload_n 1, 0, [], [])],
  [some (.iconst 1, 0, [], []), some (.iadd, 0, [], []), some (.aload_n 0, 0, [], []), some (.getfield 33, 0, [4, 4], [117]), none, none, some (.iastore, 0, [], []), some (.aload_n 0, 0, [], []), some (.getfield 21, 0, [4, 1], [110]), none, none, some (.getfield 115, 0, [2, 0], [98]), none, none, some (.iload_n 1, 0, [], []), some (.iconst 2, 0, [], [])],
  [some (.iadd, 0, [], []), some (.aload_n 0, 0, [], []), some (.getfield 36, 0, [4, 5], [119]), none, none, some (.iastore, 0, [], []), some (.aload_n 0, 0, [], []), some (.getfield 21, 0, [4, 1], [110]), none, none, some (.getfield 115, 0, [2, 0], [98]), none, none, some (.iload_n 1, 0, [], []), some (.iconst 3, 0, [], []), some (.iadd, 0, [], [])],
  [some (.aload_n 0, 0, [], []), some (.getfield 39, 0, [4, 6], [121]), none, none, some (.iastore, 0, [], []), some (.aload_n 0, 0, [], []), some (.getfield 21, 0, [4, 1], [110]), none, none, some (.getfield 115, 0, [2, 0], [98]), none, none, some (.iload_n 1, 0, [], []), some (.iconst 4, 0, [], []), some (.iadd, 0, [], []), some (.aload_n 0, 0, [], [])],
  [some (.getfield 42, 0, [4, 7], [123]), none, none, some (.iastore, 0, [], []), some (.return_, 0, [], [])]])
def km_X4_takeBack : kn_M := (⟨"KnotLaw$Rope", "takeBack", "()Z"⟩, prog_6_method_18_code, 2, some .boolean, (0, 0), [
  [some (.aload_n 0, 0, [], []), some (.getfield 21, 0, [4, 1], [110]), none, none, some (.getfield 49, 0, [2, 1], [100]), none, none, some (.ifCond .le 15, 0, [22], []), none, none, some (.aload_n 0, 0, [], []), some (.getfield 21, 0, [4, 1], [110]), none, none, some (.getfield 49, 0, [2, 1], [100])],
  [none, some (.bipush 8, 0, [], []), none, some (.if_icmp .le 5, 0, [24], []), none, none, some (.iconst 0, 0, [], []), some (.ireturn, 0, [], []), some (.aload_n 0, 0, [], []), some (.getfield 21, 0, [4, 1], [110]), none, none, some (.dup, 0, [], []), some (.getfield 49, 0, [2, 1], [100])],
  [some (.iconst 1, 0, [], []), some (.isub, 0, [], []), some (.putfield 49, 0, [2, 1, 0], [100]), none, none, some (.aload_n 0, 0, [], []), some (.getfield 21, 0, [4, 1], [110]), none, none, some (.getfield 49, 0, [2, 1], [100]), none, none, some (.iconst 5, 0, [], []), some (.imul, 0, [], []), some (.istore_n 1, 0, [], []), some (.aload_n 0, 0, [], [])],
  [some (.aload_n 0, 0, [], []), some (.getfield 21, 0, [4, 1], [110]), none, none, some (.getfield 115, 0, [2, 0], [98]), none, none, some (.iload_n 1, 0, [], []), some (.iaload, 0, [], []), some (.putfield 29, 0, [4, 3, 0], [114]), none, none, some (.aload_n 0, 0, [], []), some (.aload_n 0, 0, [], []), some (.getfield 21, 0, [4, 1], [110])],
  [none, some (.getfield 115, 0, [2, 0], [98]), none, none, some (.iload_n 1, 0, [], []), some (.iconst 1, 0, [], []), some (.iadd, 0, [], []), some (.iaload, 0, [], []), some (.putfield 33, 0, [4, 4, 0], [117]), none, none, some (.aload_n 0, 0, [], []), some (.aload_n 0, 0, [], []), some (.getfield 21, 0, [4, 1], [110])],
  [some (.getfield 115, 0, [2, 0], [98]), none, none, some (.iload_n 1, 0, [], []), some (.iconst 2, 0, [], []), some (.iadd, 0, [], []), some (.iaload, 0, [], []), some (.putfield 36, 0, [4, 5, 0], [119]), none, none, some (.aload_n 0, 0, [], []), some (.aload_n 0, 0, [], []), some (.getfield 21, 0, [4, 1], [110]), none, none, some (.getfield 115, 0, [2, 0], [98])],
  [none, none, some (.iload_n 1, 0, [], []), some (.iconst 3, 0, [], []), some (.iadd, 0, [], []), some (.iaload, 0, [], []), some (.putfield 39, 0, [4, 6, 0], [121]), none, none, some (.aload_n 0, 0, [], []), some (.aload_n 0, 0, [], []), some (.getfield 21, 0, [4, 1], [110]), none, none, some (.getfield 115, 0, [2, 0], [98])],
  [none, some (.iload_n 1, 0, [], []), some (.iconst 4, 0, [], []), some (.iadd, 0, [], []), some (.iaload, 0, [], []), some (.putfield 42, 0, [4, 7, 0], [123]), none, none, some (.iconst 1, 0, [], []), some (.ireturn, 0, [], [])]])
def km_X5_init : kn_M := (⟨"KnotLaw$Sheets", "<init>", "()V"⟩, prog_7_method_1_code, 1, none, (1, 20), [
  [some (.aload_n 0, 0, [], []), some (.invokespecial 3, 0, [], [185, 49]), none, none, some (.aload_n 0, 0, [], []), some (.iconst 4, 0, [], []), some (.newarray .int, 0, [], [90]), none, some (.dup, 0, [], []), some (.iconst 0, 0, [], []), some (.iconst (-1), 0, [], []), some (.iastore, 0, [], []), some (.dup, 0, [], []), some (.iconst 1, 0, [], []), some (.iconst (-1), 0, [], []), some (.iastore, 0, [], [])],
  [some (.dup, 0, [], []), some (.iconst 2, 0, [], []), some (.iconst (-1), 0, [], []), some (.iastore, 0, [], []), some (.dup, 0, [], []), some (.iconst 3, 0, [], []), some (.iconst (-1), 0, [], []), some (.iastore, 0, [], []), some (.putfield 11, 0, [5, 0, 3], [186]), none, none, some (.aload_n 0, 0, [], []), some (.iconst 4, 0, [], []), some (.newarray .int, 0, [], [90]), none, some (.putfield 15, 0, [5, 1, 3], [187])],
  [none, none, some (.aload_n 0, 0, [], []), some (.bipush 96, 0, [], []), none, some (.newarray .long, 0, [], [196]), none, some (.putfield 18, 0, [5, 2, 3], [188]), none, none, some (.return_, 0, [], [])]])
def km_X5_lay : kn_M := (⟨"KnotLaw$Sheets", "lay", "(III)V"⟩, prog_7_method_2_code, 5, none, (2, 47), [
  [some (.aload_n 0, 0, [], []), some (.getfield 11, 0, [5, 0], [186]), none, none, some (.iload_n 1, 0, [], []), some (.iload_n 2, 0, [], []), some (.iastore, 0, [], []), some (.aload_n 0, 0, [], []), some (.getfield 15, 0, [5, 1], [187]), none, none, some (.iload_n 1, 0, [], []), some (.iload_n 3, 0, [], []), some (.iastore, 0, [], []), some (.iconst 0, 0, [], []), some (.istore 4, 0, [], [])],
  [none, some (.iload 4, 0, [], []), none, some (.iload_n 3, 0, [], []), some (.if_icmp .ge 17, 0, [37], []), none, none, some (.aload_n 0, 0, [], []), some (.iload_n 1, 0, [], []), some (.iload 4, 0, [], []), none, some (.lconst 0, 0, [], []), some (.invokevirtual 22, 0, [52, 3, 5, 5, 0], [608, 38, 594, 595]), none, none, some (.iinc 4 1, 0, [], [])],
  [none, none, some (.goto (-17), 0, [17], []), none, none, some (.return_, 0, [], [])]])
def km_X5_takeAway : kn_M := (⟨"KnotLaw$Sheets", "takeAway", "(I)I"⟩, prog_7_method_3_code, 2, some .int, (0, 0), [
  [some (.aload_n 0, 0, [], []), some (.getfield 11, 0, [5, 0], [186]), none, none, some (.iload_n 1, 0, [], []), some (.iaload, 0, [], []), some (.iconst (-1), 0, [], []), some (.if_icmp .ne 6, 0, [13], []), none, none, some (.bipush (-11), 0, [], []), none, some (.ireturn, 0, [], []), some (.aload_n 0, 0, [], []), some (.getfield 11, 0, [5, 0], [186])],
  [none, some (.iload_n 1, 0, [], []), some (.iconst (-1), 0, [], []), some (.iastore, 0, [], []), some (.aload_n 0, 0, [], []), some (.getfield 15, 0, [5, 1], [187]), none, none, some (.iload_n 1, 0, [], []), some (.iaload, 0, [], []), some (.ireturn, 0, [], [])]])
def km_X5_faultOf : kn_M := (⟨"KnotLaw$Sheets", "faultOf", "(IIII)I"⟩, prog_7_method_4_code, 5, some .int, (1, 23), [
  [some (.aload_n 0, 0, [], []), some (.getfield 11, 0, [5, 0], [186]), none, none, some (.iload_n 1, 0, [], []), some (.iaload, 0, [], []), some (.iconst (-1), 0, [], []), some (.if_icmp .ne 6, 0, [13], []), none, none, some (.bipush (-11), 0, [], []), none, some (.ireturn, 0, [], []), some (.aload_n 0, 0, [], []), some (.getfield 11, 0, [5, 0], [186])],
  [none, some (.iload_n 1, 0, [], []), some (.iaload, 0, [], []), some (.iload_n 2, 0, [], []), some (.if_icmp .eq 6, 0, [26], []), none, none, some (.bipush (-12), 0, [], []), none, some (.ireturn, 0, [], []), some (.aload_n 0, 0, [], []), some (.iload_n 1, 0, [], []), some (.iload_n 3, 0, [], []), some (.iload 4, 0, [], []), none, some (.invokevirtual 26, 0, [50, 3, 5, 4, 0], [563, 38, 565, 12])],
  [none, none, some (.ifCond .eq 7, 0, [41], []), none, none, some (.iconst 0, 0, [], []), some (.goto 5, 0, [43], []), none, none, some (.bipush (-13), 0, [], []), none, some (.ireturn, 0, [], [])]])
def km_X5_isInside : kn_M := (⟨"KnotLaw$Sheets", "isInside", "(III)Z"⟩, prog_7_method_5_code, 4, some .boolean, (0, 0), [
  [some (.iload_n 2, 0, [], []), some (.ifCond .lt 23, 0, [24], []), none, none, some (.iload_n 3, 0, [], []), some (.ifCond .lt 19, 0, [24], []), none, none, some (.iload_n 2, 0, [], []), some (.aload_n 0, 0, [], []), some (.getfield 15, 0, [5, 1], [187]), none, none, some (.iload_n 1, 0, [], []), some (.iaload, 0, [], []), some (.iload_n 3, 0, [], [])],
  [some (.isub, 0, [], []), some (.if_icmp .gt 7, 0, [24], []), none, none, some (.iconst 1, 0, [], []), some (.goto 4, 0, [25], []), none, none, some (.iconst 0, 0, [], []), some (.ireturn, 0, [], [])]])
def km_X5_get : kn_M := (⟨"KnotLaw$Sheets", "get", "(II)J"⟩, prog_7_method_6_code, 3, some .long, (1, 23), [
  [some (.aload_n 0, 0, [], []), some (.iload_n 1, 0, [], []), some (.iload_n 2, 0, [], []), some (.iconst 1, 0, [], []), some (.invokevirtual 26, 0, [50, 3, 5, 4, 0], [563, 38, 565, 12]), none, none, some (.ifCond .eq 17, 0, [24], []), none, none, some (.aload_n 0, 0, [], []), some (.getfield 18, 0, [5, 2], [188]), none, none, some (.iload_n 1, 0, [], []), some (.bipush 24, 0, [], [])],
  [none, some (.imul, 0, [], []), some (.iload_n 2, 0, [], []), some (.iadd, 0, [], []), some (.laload, 0, [], []), some (.goto 4, 0, [25], []), none, none, some (.lconst 0, 0, [], []), some (.lreturn, 0, [], [])]])
def km_X5_put : kn_M := (⟨"KnotLaw$Sheets", "put", "(IIJ)V"⟩, prog_7_method_7_code, 5, none, (1, 23), [
  [some (.aload_n 0, 0, [], []), some (.iload_n 1, 0, [], []), some (.iload_n 2, 0, [], []), some (.iconst 1, 0, [], []), some (.invokevirtual 26, 0, [50, 3, 5, 4, 0], [563, 38, 565, 12]), none, none, some (.ifCond .eq 24, 0, [31], []), none, none, some (.aload_n 0, 0, [], []), some (.getfield 18, 0, [5, 2], [188]), none, none, some (.iload_n 1, 0, [], []), some (.bipush 24, 0, [], [])],
  [none, some (.imul, 0, [], []), some (.iload_n 2, 0, [], []), some (.iadd, 0, [], []), some (.aload_n 0, 0, [], []), some (.getfield 11, 0, [5, 0], [186]), none, none, some (.iload_n 1, 0, [], []), some (.iaload, 0, [], []), some (.lload_n 3, 0, [], []), some (.invokestatic 30, 0, [53, 2, 5, 3, 0], [597, 38, 598]), none, none, some (.lastore, 0, [], []), some (.return_, 0, [], [])]])
def km_X5_lowestBits : kn_M := (⟨"KnotLaw$Sheets", "lowestBits", "(IJ)J"⟩, prog_7_method_8_code, 3, some .long, (0, 0), [
  [some (.iload_n 0, 0, [], []), some (.tableswitch 41 0 2 #[27, 32, 37], 27, [42, 28, 33, 38], [])],
  [none, none, none, none, none, none, none, none, none, none, none, none, some (.lload_n 1, 0, [], []), some (.l2i, 0, [], []), some (.i2b, 0, [], []), some (.i2l, 0, [], [])],
  [some (.lreturn, 0, [], []), some (.lload_n 1, 0, [], []), some (.l2i, 0, [], []), some (.i2s, 0, [], []), some (.i2l, 0, [], []), some (.lreturn, 0, [], []), some (.lload_n 1, 0, [], []), some (.l2i, 0, [], []), some (.i2l, 0, [], []), some (.lreturn, 0, [], []), some (.lload_n 1, 0, [], []), some (.lreturn, 0, [], [])]])
def km_X5_carry : kn_M := (⟨"KnotLaw$Sheets", "carry", "(IIIII)I"⟩, prog_7_method_9_code, 6, some .int, (1, 26), [
  [some (.aload_n 0, 0, [], []), some (.getfield 11, 0, [5, 0], [186]), none, none, some (.iload_n 1, 0, [], []), some (.iaload, 0, [], []), some (.iconst (-1), 0, [], []), some (.if_icmp .eq 13, 0, [20], []), none, none, some (.aload_n 0, 0, [], []), some (.getfield 11, 0, [5, 0], [186]), none, none, some (.iload_n 3, 0, [], []), some (.iaload, 0, [], [])],
  [some (.iconst (-1), 0, [], []), some (.if_icmp .ne 6, 0, [23], []), none, none, some (.bipush (-11), 0, [], []), none, some (.ireturn, 0, [], []), some (.aload_n 0, 0, [], []), some (.getfield 11, 0, [5, 0], [186]), none, none, some (.iload_n 1, 0, [], []), some (.iaload, 0, [], []), some (.aload_n 0, 0, [], []), some (.getfield 11, 0, [5, 0], [186])],
  [none, some (.iload_n 3, 0, [], []), some (.iaload, 0, [], []), some (.if_icmp .eq 6, 0, [41], []), none, none, some (.bipush (-12), 0, [], []), none, some (.ireturn, 0, [], []), some (.aload_n 0, 0, [], []), some (.iload_n 1, 0, [], []), some (.iload_n 2, 0, [], []), some (.iload 5, 0, [], []), none, some (.invokevirtual 26, 0, [50, 3, 5, 4, 0], [563, 38, 565, 12])],
  [none, some (.ifCond .eq 15, 0, [64], []), none, none, some (.aload_n 0, 0, [], []), some (.iload_n 3, 0, [], []), some (.iload 4, 0, [], []), none, some (.iload 5, 0, [], []), none, some (.invokevirtual 26, 0, [50, 3, 5, 4, 0], [563, 38, 565, 12]), none, none, some (.ifCond .ne 6, 0, [67], [])],
  [some (.bipush (-13), 0, [], []), none, some (.ireturn, 0, [], []), some (.aload_n 0, 0, [], []), some (.getfield 18, 0, [5, 2], [188]), none, none, some (.iload_n 1, 0, [], []), some (.bipush 24, 0, [], []), none, some (.imul, 0, [], []), some (.iload_n 2, 0, [], []), some (.iadd, 0, [], []), some (.aload_n 0, 0, [], []), some (.getfield 18, 0, [5, 2], [188])],
  [none, some (.iload_n 3, 0, [], []), some (.bipush 24, 0, [], []), none, some (.imul, 0, [], []), some (.iload 4, 0, [], []), none, some (.iadd, 0, [], []), some (.iload 5, 0, [], []), none, some (.invokestatic 34, 0, [], [629, 333, 332, 40]), none, none, some (.iload 5, 0, [], []), none, some (.ireturn, 0, [], [])]])
def km_X6_init : kn_M := (⟨"KnotLaw", "<init>", "()V"⟩, prog_1_method_1_code, 1, none, (3, 60), [
  [some (.aload_n 0, 0, [], []), some (.invokespecial 1, 0, [], [48, 49]), none, none, some (.aload_n 0, 0, [], []), some (.new 7, 0, [4, 8, 3, 3, 3, 0, 0, 0, 0, 0], [51, 52, 33]), none, none, some (.dup, 0, [], []), some (.invokespecial 9, 0, [28, 0, 4, 1, 1], [0, 33, 54]), none, none, some (.putfield 10, 0, [6, 0, 3], [197]), none, none, some (.aload_n 0, 0, [], [])],
  [some (.new 7, 0, [4, 8, 3, 3, 3, 0, 0, 0, 0, 0], [51, 52, 33]), none, none, some (.dup, 0, [], []), some (.invokespecial 9, 0, [28, 0, 4, 1, 1], [0, 33, 54]), none, none, some (.putfield 16, 0, [6, 1, 3], [198]), none, none, some (.aload_n 0, 0, [], []), some (.new 19, 0, [1, 3, 3, 3, 3], [142, 143, 36]), none, none, some (.dup, 0, [], []), some (.invokespecial 21, 0, [4, 0, 1, 1, 1], [3, 36, 145])],
  [none, none, some (.putfield 22, 0, [6, 2, 3], [199]), none, none, some (.aload_n 0, 0, [], []), some (.new 26, 0, [3, 4, 3, 3, 0, 0], [158, 159, 37]), none, none, some (.dup, 0, [], []), some (.invokespecial 28, 0, [17, 0, 3, 1, 1], [4, 37, 161]), none, none, some (.putfield 29, 0, [6, 3, 3], [200])],
  [some (.aload_n 0, 0, [], []), some (.new 33, 0, [5, 3, 3, 3, 3], [180, 181, 38]), none, none, some (.dup, 0, [], []), some (.invokespecial 35, 0, [46, 0, 5, 1, 1], [6, 38, 183]), none, none, some (.putfield 36, 0, [6, 4, 3], [201]), none, none, some (.aload_n 0, 0, [], []), some (.iconst 0, 0, [], []), some (.putfield 40, 0, [6, 5, 2], [202])],
  [some (.return_, 0, [], [])]])
def km_X6_clause : kn_M := (⟨"KnotLaw", "clause", "(IIII)I"⟩, prog_1_method_2_code, 5, some .int, (2, 50), [
  [some (.iload_n 1, 0, [], []), some (.iconst 0, 0, [], []), some (.iconst 4, 0, [], []), some (.invokestatic 44, 0, [91, 3, 6, 3, 0], [220, 32, 221]), none, none, some (.ifCond .eq 13, 0, [19], []), none, none, some (.iload_n 2, 0, [], []), some (.iconst 1, 0, [], []), some (.bipush 20, 0, [], []), none, some (.invokestatic 44, 0, [91, 3, 6, 3, 0], [220, 32, 221])],
  [some (.ifCond .ne 5, 0, [21], []), none, none, some (.iconst (-1), 0, [], []), some (.ireturn, 0, [], []), some (.iload_n 3, 0, [], []), some (.iconst 0, 0, [], []), some (.iconst 1, 0, [], []), some (.aload_n 0, 0, [], []), some (.getfield 10, 0, [6, 0], [197]), none, none, some (.getfield 48, 0, [4, 0], [108]), none, none, some (.getfield 52, 0, [0, 4], [76])],
  [none, none, some (.ishl, 0, [], []), some (.iconst 1, 0, [], []), some (.isub, 0, [], []), some (.invokestatic 44, 0, [91, 3, 6, 3, 0], [220, 32, 221]), none, none, some (.ifCond .eq 11, 0, [51], []), none, none, some (.iload 4, 0, [], []), none, some (.invokestatic 58, 0, [93, 1, 6, 1, 0], [223, 32, 224])],
  [some (.ifCond .ne 5, 0, [53], []), none, none, some (.iconst (-1), 0, [], []), some (.ireturn, 0, [], []), some (.aload_n 0, 0, [], []), some (.getfield 10, 0, [6, 0], [197]), none, none, some (.getfield 48, 0, [4, 0], [108]), none, none, some (.getfield 52, 0, [0, 4], [76]), none, none, some (.bipush 8, 0, [], [])],
  [none, some (.if_icmp .lt 6, 0, [71], []), none, none, some (.bipush (-3), 0, [], []), none, some (.ireturn, 0, [], []), some (.aload_n 0, 0, [], []), some (.getfield 10, 0, [6, 0], [197]), none, none, some (.iload_n 1, 0, [], []), some (.iload_n 2, 0, [], []), some (.iload_n 3, 0, [], []), some (.iload 4, 0, [], [])],
  [some (.invokevirtual 62, 0, [29, 4, 4, 6, 0], [226, 33, 227, 228]), none, none, some (.ireturn, 0, [], [])]])
def km_X6_of : kn_M := (⟨"KnotLaw", "of", "(II)I"⟩, prog_1_method_3_code, 3, some .int, (3, 67), [
  [some (.aload_n 0, 0, [], []), some (.iload_n 1, 0, [], []), some (.invokevirtual 66, 0, [96, 1, 6, 2, 0], [238, 32, 240, 0]), none, none, some (.ifCond .ne 5, 0, [10], []), none, none, some (.iconst (-1), 0, [], []), some (.ireturn, 0, [], []), some (.iload_n 2, 0, [], []), some (.tableswitch 149 0 6 #[41, 54, 67, 80, 93, 113, 140], 41, [160, 52, 65, 78, 91, 104, 124, 151], [])],
  [],
  [],
  [none, none, none, none, some (.aload_n 0, 0, [], []), some (.getfield 10, 0, [6, 0], [197]), none, none, some (.getfield 48, 0, [4, 0], [108]), none, none, some (.getfield 69, 0, [0, 0], [64]), none, none, some (.iload_n 1, 0, [], []), some (.iaload, 0, [], [])],
  [some (.ireturn, 0, [], []), some (.aload_n 0, 0, [], []), some (.getfield 10, 0, [6, 0], [197]), none, none, some (.getfield 48, 0, [4, 0], [108]), none, none, some (.getfield 73, 0, [0, 1], [67]), none, none, some (.iload_n 1, 0, [], []), some (.iaload, 0, [], []), some (.ireturn, 0, [], []), some (.aload_n 0, 0, [], []), some (.getfield 10, 0, [6, 0], [197])],
  [none, none, some (.getfield 48, 0, [4, 0], [108]), none, none, some (.getfield 76, 0, [0, 2], [70]), none, none, some (.iload_n 1, 0, [], []), some (.iaload, 0, [], []), some (.ireturn, 0, [], []), some (.aload_n 0, 0, [], []), some (.getfield 10, 0, [6, 0], [197]), none, none, some (.getfield 48, 0, [4, 0], [108])],
  [none, none, some (.getfield 79, 0, [0, 3], [74]), none, none, some (.iload_n 1, 0, [], []), some (.iaload, 0, [], []), some (.ireturn, 0, [], []), some (.aload_n 0, 0, [], []), some (.getfield 10, 0, [6, 0], [197]), none, none, some (.getfield 82, 0, [4, 3], [115]), none, none, some (.iload_n 1, 0, [], [])],
  [some (.invokestatic 85, 0, [97, 2, 6, 2, 0], [242, 32, 243]), none, none, some (.ifCond .eq 7, 0, [122], []), none, none, some (.iconst 1, 0, [], []), some (.goto 4, 0, [123], []), none, none, some (.iconst 0, 0, [], []), some (.ireturn, 0, [], []), some (.aload_n 0, 0, [], []), some (.getfield 10, 0, [6, 0], [197])],
  [some (.aload_n 0, 0, [], []), some (.getfield 10, 0, [6, 0], [197]), none, none, some (.getfield 82, 0, [4, 3], [115]), none, none, some (.invokevirtual 89, 0, [37, 1, 4, 4, 0], [245, 33, 246, 247]), none, none, some (.iload_n 1, 0, [], []), some (.invokestatic 85, 0, [97, 2, 6, 2, 0], [242, 32, 243]), none, none, some (.ifCond .eq 7, 0, [149], [])],
  [none, some (.iconst 1, 0, [], []), some (.goto 4, 0, [150], []), none, none, some (.iconst 0, 0, [], []), some (.ireturn, 0, [], []), some (.aload_n 0, 0, [], []), some (.getfield 10, 0, [6, 0], [197]), none, none, some (.iload_n 1, 0, [], []), some (.invokevirtual 93, 0, [34, 1, 4, 2, 0], [250, 33, 251, 252]), none, none, some (.ireturn, 0, [], [])],
  [some (.iconst (-1), 0, [], []), some (.ireturn, 0, [], [])]])
def km_X6_party : kn_M := (⟨"KnotLaw", "party", "(II)I"⟩, prog_1_method_4_code, 4, some .int, (2, 42), [
  [some (.iload_n 1, 0, [], []), some (.invokestatic 58, 0, [93, 1, 6, 1, 0], [223, 32, 224]), none, none, some (.ifCond .eq 12, 0, [16], []), none, none, some (.iload_n 2, 0, [], []), some (.iconst 0, 0, [], []), some (.iconst 1, 0, [], []), some (.invokestatic 44, 0, [91, 3, 6, 3, 0], [220, 32, 221]), none, none, some (.ifCond .ne 5, 0, [18], [])],
  [some (.iconst (-1), 0, [], []), some (.ireturn, 0, [], []), some (.aload_n 0, 0, [], []), some (.getfield 10, 0, [6, 0], [197]), none, none, some (.getfield 48, 0, [4, 0], [108]), none, none, some (.iload_n 1, 0, [], []), some (.invokevirtual 96, 0, [2, 1, 0, 4, 0], [266, 34, 267, 268]), none, none, some (.istore_n 3, 0, [], []), some (.iload_n 2, 0, [], []), some (.ifCond .ne 5, 0, [36], [])],
  [none, none, some (.iload_n 3, 0, [], []), some (.ireturn, 0, [], []), some (.iload_n 3, 0, [], []), some (.aload_n 0, 0, [], []), some (.getfield 10, 0, [6, 0], [197]), none, none, some (.getfield 82, 0, [4, 3], [115]), none, none, some (.iand, 0, [], []), some (.ifCond .eq 7, 0, [52], [])],
  [some (.iconst 1, 0, [], []), some (.goto 4, 0, [53], []), none, none, some (.iconst 0, 0, [], []), some (.ireturn, 0, [], [])]])
def km_X6_owe : kn_M := (⟨"KnotLaw", "owe", "(II)I"⟩, prog_1_method_5_code, 4, some .int, (2, 42), [
  [some (.aload_n 0, 0, [], []), some (.iload_n 1, 0, [], []), some (.invokevirtual 66, 0, [96, 1, 6, 2, 0], [238, 32, 240, 0]), none, none, some (.ifCond .eq 10, 0, [15], []), none, none, some (.iload_n 2, 0, [], []), some (.invokestatic 58, 0, [93, 1, 6, 1, 0], [223, 32, 224]), none, none, some (.ifCond .ne 5, 0, [17], []), none, none, some (.iconst (-1), 0, [], [])],
  [some (.ireturn, 0, [], []), some (.aload_n 0, 0, [], []), some (.getfield 10, 0, [6, 0], [197]), none, none, some (.getfield 48, 0, [4, 0], [108]), none, none, some (.getfield 79, 0, [0, 3], [74]), none, none, some (.iload_n 1, 0, [], []), some (.iaload, 0, [], []), some (.istore_n 3, 0, [], []), some (.aload_n 0, 0, [], []), some (.getfield 10, 0, [6, 0], [197])],
  [none, none, some (.getfield 48, 0, [4, 0], [108]), none, none, some (.getfield 79, 0, [0, 3], [74]), none, none, some (.iload_n 1, 0, [], []), some (.iload_n 2, 0, [], []), some (.iastore, 0, [], []), some (.iload_n 3, 0, [], []), some (.ireturn, 0, [], [])]])
def km_X6_type : kn_M := (⟨"KnotLaw", "type", "(I)I"⟩, prog_1_method_6_code, 2, some .int, (1, 22), [
  [some (.iload_n 1, 0, [], []), some (.bipush 32, 0, [], []), none, some (.bipush 126, 0, [], []), none, some (.invokestatic 44, 0, [91, 3, 6, 3, 0], [220, 32, 221]), none, none, some (.ifCond .ne 5, 0, [13], []), none, none, some (.iconst (-1), 0, [], []), some (.ireturn, 0, [], []), some (.aload_n 0, 0, [], []), some (.getfield 29, 0, [6, 3], [200])],
  [none, some (.iload_n 1, 0, [], []), some (.invokevirtual 99, 0, [18, 1, 3, 2, 0], [278, 37, 279, 280]), none, none, some (.ireturn, 0, [], [])]])
def km_X6_agreement : kn_M := (⟨"KnotLaw", "agreement", "()I"⟩, prog_1_method_7_code, 2, some .int, (6, 132), [
  [some (.aload_n 0, 0, [], []), some (.getfield 29, 0, [6, 3], [200]), none, none, some (.invokevirtual 102, 0, [19, 0, 3, 2, 0], [286, 37, 287, 288]), none, none, some (.istore_n 1, 0, [], []), some (.iload_n 1, 0, [], []), some (.ifCond .le 17, 0, [26], []), none, none, some (.aload_n 0, 0, [], []), some (.getfield 10, 0, [6, 0], [197])],
  [some (.aload_n 0, 0, [], []), some (.getfield 29, 0, [6, 3], [200]), none, none, some (.getfield 106, 0, [3, 1], [168]), none, none, some (.invokevirtual 107, 0, [30, 1, 4, 2, 0], [323, 33, 324, 325]), none, none, some (.iload_n 1, 0, [], []), some (.ireturn, 0, [], [])]])
def km_X6_count : kn_M := (⟨"KnotLaw", "count", "(I)I"⟩, prog_1_method_8_code, 2, some .int, (2, 45), [
  [some (.iload_n 1, 0, [], []), some (.tableswitch 124 0 7 #[47, 58, 66, 74, 82, 97, 105, 113], 47, [125, 48, 59, 67, 75, 83, 98, 106, 114], [])],
  [],
  [],
  [some (.aload_n 0, 0, [], []), some (.getfield 10, 0, [6, 0], [197]), none, none, some (.getfield 48, 0, [4, 0], [108]), none, none, some (.getfield 52, 0, [0, 4], [76]), none, none, some (.ireturn, 0, [], []), some (.aload_n 0, 0, [], []), some (.getfield 10, 0, [6, 0], [197]), none, none, some (.getfield 111, 0, [4, 6], [122])],
  [none, none, some (.ireturn, 0, [], []), some (.aload_n 0, 0, [], []), some (.getfield 10, 0, [6, 0], [197]), none, none, some (.getfield 114, 0, [4, 5], [120]), none, none, some (.ireturn, 0, [], []), some (.aload_n 0, 0, [], []), some (.getfield 10, 0, [6, 0], [197]), none, none, some (.getfield 82, 0, [4, 3], [115])],
  [none, none, some (.ireturn, 0, [], []), some (.aload_n 0, 0, [], []), some (.getfield 10, 0, [6, 0], [197]), none, none, some (.aload_n 0, 0, [], []), some (.getfield 10, 0, [6, 0], [197]), none, none, some (.getfield 82, 0, [4, 3], [115]), none, none, some (.invokevirtual 89, 0, [37, 1, 4, 4, 0], [245, 33, 246, 247])],
  [none, some (.ireturn, 0, [], []), some (.aload_n 0, 0, [], []), some (.getfield 10, 0, [6, 0], [197]), none, none, some (.invokevirtual 117, 0, [39, 0, 4, 3, 0], [338, 33, 339, 340]), none, none, some (.ireturn, 0, [], []), some (.aload_n 0, 0, [], []), some (.getfield 10, 0, [6, 0], [197]), none, none, some (.getfield 120, 0, [4, 4], [118])],
  [none, some (.ireturn, 0, [], []), some (.aload_n 0, 0, [], []), some (.getfield 10, 0, [6, 0], [197]), none, none, some (.getfield 123, 0, [4, 1], [111]), none, none, some (.getfield 127, 0, [2, 1], [101]), none, none, some (.ireturn, 0, [], []), some (.iconst (-1), 0, [], []), some (.ireturn, 0, [], [])]])
def km_X6_pull : kn_M := (⟨"KnotLaw", "pull", "(I)I"⟩, prog_1_method_9_code, 2, some .int, (5, 110), [
  [some (.iload_n 1, 0, [], []), some (.invokestatic 130, 0, [92, 1, 6, 1, 0], [347, 32, 348]), none, none, some (.ifCond .ne 5, 0, [9], []), none, none, some (.iconst (-1), 0, [], []), some (.ireturn, 0, [], []), some (.aload_n 0, 0, [], []), some (.getfield 10, 0, [6, 0], [197]), none, none, some (.invokevirtual 133, 0, [44, 0, 4, 2, 0], [350, 33, 351, 352])],
  [some (.aload_n 0, 0, [], []), some (.getfield 10, 0, [6, 0], [197]), none, none, some (.iload_n 1, 0, [], []), some (.invokevirtual 136, 0, [42, 1, 4, 3, 0], [359, 33, 360, 361]), none, none, some (.ireturn, 0, [], [])]])
def km_X6_cut : kn_M := (⟨"KnotLaw", "cut", "(I)I"⟩, prog_1_method_10_code, 2, some .int, (3, 67), [
  [some (.aload_n 0, 0, [], []), some (.iload_n 1, 0, [], []), some (.invokevirtual 66, 0, [96, 1, 6, 2, 0], [238, 32, 240, 0]), none, none, some (.ifCond .ne 5, 0, [10], []), none, none, some (.iconst (-1), 0, [], []), some (.ireturn, 0, [], []), some (.aload_n 0, 0, [], []), some (.getfield 10, 0, [6, 0], [197]), none, none, some (.getfield 82, 0, [4, 3], [115])],
  [none, some (.iload_n 1, 0, [], []), some (.invokestatic 85, 0, [97, 2, 6, 2, 0], [242, 32, 243]), none, none, some (.ifCond .ne 6, 0, [27], []), none, none, some (.bipush (-2), 0, [], []), none, some (.ireturn, 0, [], []), some (.aload_n 0, 0, [], []), some (.getfield 10, 0, [6, 0], [197]), none, none, some (.invokevirtual 133, 0, [44, 0, 4, 2, 0], [350, 33, 351, 352])],
  [none, none, some (.aload_n 0, 0, [], []), some (.getfield 10, 0, [6, 0], [197]), none, none, some (.dup, 0, [], []), some (.getfield 82, 0, [4, 3], [115]), none, none, some (.iconst 1, 0, [], []), some (.iload_n 1, 0, [], []), some (.ishl, 0, [], []), some (.iconst (-1), 0, [], []), some (.ixor, 0, [], []), some (.iand, 0, [], [])],
  [some (.putfield 82, 0, [4, 3, 0], [115]), none, none, some (.aload_n 0, 0, [], []), some (.getfield 10, 0, [6, 0], [197]), none, none, some (.dup, 0, [], []), some (.getfield 120, 0, [4, 4], [118]), none, none, some (.iconst 1, 0, [], []), some (.iadd, 0, [], []), some (.putfield 120, 0, [4, 4, 0], [118])],
  [some (.aload_n 0, 0, [], []), some (.getfield 10, 0, [6, 0], [197]), none, none, some (.getfield 82, 0, [4, 3], [115]), none, none, some (.ireturn, 0, [], [])]])
def km_X6_tie : kn_M := (⟨"KnotLaw", "tie", "(I)I"⟩, prog_1_method_11_code, 2, some .int, (3, 67), [
  [some (.aload_n 0, 0, [], []), some (.iload_n 1, 0, [], []), some (.invokevirtual 66, 0, [96, 1, 6, 2, 0], [238, 32, 240, 0]), none, none, some (.ifCond .ne 5, 0, [10], []), none, none, some (.iconst (-1), 0, [], []), some (.ireturn, 0, [], []), some (.aload_n 0, 0, [], []), some (.getfield 10, 0, [6, 0], [197]), none, none, some (.getfield 82, 0, [4, 3], [115])],
  [none, some (.iload_n 1, 0, [], []), some (.invokestatic 85, 0, [97, 2, 6, 2, 0], [242, 32, 243]), none, none, some (.ifCond .eq 6, 0, [27], []), none, none, some (.bipush (-2), 0, [], []), none, some (.ireturn, 0, [], []), some (.aload_n 0, 0, [], []), some (.getfield 10, 0, [6, 0], [197]), none, none, some (.invokevirtual 133, 0, [44, 0, 4, 2, 0], [350, 33, 351, 352])],
  [none, none, some (.aload_n 0, 0, [], []), some (.getfield 10, 0, [6, 0], [197]), none, none, some (.dup, 0, [], []), some (.getfield 82, 0, [4, 3], [115]), none, none, some (.iconst 1, 0, [], []), some (.iload_n 1, 0, [], []), some (.ishl, 0, [], []), some (.ior, 0, [], []), some (.putfield 82, 0, [4, 3, 0], [115])],
  [none, some (.aload_n 0, 0, [], []), some (.getfield 10, 0, [6, 0], [197]), none, none, some (.getfield 82, 0, [4, 3], [115]), none, none, some (.ireturn, 0, [], [])]])
def km_X6_wet : kn_M := (⟨"KnotLaw", "wet", "(I)I"⟩, prog_1_method_12_code, 2, some .int, (4, 89), [
  [some (.iload_n 1, 0, [], []), some (.iconst 0, 0, [], []), some (.iconst 1, 0, [], []), some (.invokestatic 44, 0, [91, 3, 6, 3, 0], [220, 32, 221]), none, none, some (.ifCond .ne 5, 0, [11], []), none, none, some (.iconst (-1), 0, [], []), some (.ireturn, 0, [], []), some (.aload_n 0, 0, [], []), some (.getfield 10, 0, [6, 0], [197]), none, none, some (.getfield 114, 0, [4, 5], [120])],
  [none, none, some (.iload_n 1, 0, [], []), some (.if_icmp .ne 6, 0, [25], []), none, none, some (.bipush (-2), 0, [], []), none, some (.ireturn, 0, [], []), some (.aload_n 0, 0, [], []), some (.getfield 10, 0, [6, 0], [197]), none, none, some (.invokevirtual 133, 0, [44, 0, 4, 2, 0], [350, 33, 351, 352])],
  [some (.aload_n 0, 0, [], []), some (.getfield 10, 0, [6, 0], [197]), none, none, some (.iload_n 1, 0, [], []), some (.putfield 114, 0, [4, 5, 0], [120]), none, none, some (.aload_n 0, 0, [], []), some (.getfield 10, 0, [6, 0], [197]), none, none, some (.invokevirtual 139, 0, [35, 0, 4, 3, 0], [385, 33, 386, 387]), none, none, some (.ireturn, 0, [], [])]])
def km_X6_days : kn_M := (⟨"KnotLaw", "days", "(I)I"⟩, prog_1_method_13_code, 2, some .int, (3, 67), [
  [some (.iload_n 1, 0, [], []), some (.iconst 1, 0, [], []), some (.bipush 99, 0, [], []), none, some (.invokestatic 44, 0, [91, 3, 6, 3, 0], [220, 32, 221]), none, none, some (.ifCond .ne 5, 0, [12], []), none, none, some (.iconst (-1), 0, [], []), some (.ireturn, 0, [], []), some (.aload_n 0, 0, [], []), some (.getfield 10, 0, [6, 0], [197])],
  [some (.getfield 111, 0, [4, 6], [122]), none, none, some (.iload_n 1, 0, [], []), some (.iadd, 0, [], []), some (.sipush 9999, 0, [], []), none, none, some (.if_icmp .le 6, 0, [30], []), none, none, some (.bipush (-3), 0, [], []), none, some (.ireturn, 0, [], []), some (.aload_n 0, 0, [], []), some (.getfield 10, 0, [6, 0], [197])],
  [none, none, some (.invokevirtual 133, 0, [44, 0, 4, 2, 0], [350, 33, 351, 352]), none, none, some (.aload_n 0, 0, [], []), some (.getfield 10, 0, [6, 0], [197]), none, none, some (.dup, 0, [], []), some (.getfield 111, 0, [4, 6], [122]), none, none, some (.iload_n 1, 0, [], []), some (.iadd, 0, [], []), some (.putfield 111, 0, [4, 6, 0], [122])],
  [none, none, some (.aload_n 0, 0, [], []), some (.getfield 10, 0, [6, 0], [197]), none, none, some (.getfield 111, 0, [4, 6], [122]), none, none, some (.ireturn, 0, [], [])]])
def km_X6_drift : kn_M := (⟨"KnotLaw", "drift", "(I)I"⟩, prog_1_method_14_code, 3, some .int, (6, 130), [
  [some (.iload_n 1, 0, [], []), some (.iconst 1, 0, [], []), some (.bipush 40, 0, [], []), none, some (.invokestatic 44, 0, [91, 3, 6, 3, 0], [220, 32, 221]), none, none, some (.ifCond .ne 5, 0, [12], []), none, none, some (.iconst (-1), 0, [], []), some (.ireturn, 0, [], []), some (.aload_n 0, 0, [], []), some (.getfield 10, 0, [6, 0], [197])],
  [some (.getfield 111, 0, [4, 6], [122]), none, none, some (.iload_n 1, 0, [], []), some (.iadd, 0, [], []), some (.sipush 9999, 0, [], []), none, none, some (.if_icmp .le 6, 0, [30], []), none, none, some (.bipush (-3), 0, [], []), none, some (.ireturn, 0, [], []), some (.iconst 0, 0, [], []), some (.istore_n 2, 0, [], [])],
  [some (.iload_n 2, 0, [], []), some (.iload_n 1, 0, [], []), some (.if_icmp .ge 23, 0, [57], []), none, none, some (.aload_n 0, 0, [], []), some (.getfield 10, 0, [6, 0], [197]), none, none, some (.invokevirtual 133, 0, [44, 0, 4, 2, 0], [350, 33, 351, 352]), none, none, some (.aload_n 0, 0, [], []), some (.getfield 10, 0, [6, 0], [197])],
  [some (.invokevirtual 142, 0, [43, 0, 4, 1, 0], [397, 33, 398, 399]), none, none, some (.iinc 2 1, 0, [], []), none, none, some (.goto (-22), 0, [32], []), none, none, some (.aload_n 0, 0, [], []), some (.getfield 10, 0, [6, 0], [197]), none, none, some (.getfield 82, 0, [4, 3], [115])],
  [some (.ireturn, 0, [], [])]])
def km_X6_undo : kn_M := (⟨"KnotLaw", "undo", "()I"⟩, prog_1_method_15_code, 1, some .int, (1, 21), [
  [some (.aload_n 0, 0, [], []), some (.getfield 10, 0, [6, 0], [197]), none, none, some (.invokevirtual 145, 0, [45, 0, 4, 2, 0], [409, 33, 410, 411]), none, none, some (.ifCond .eq 16, 0, [23], []), none, none, some (.aload_n 0, 0, [], []), some (.getfield 10, 0, [6, 0], [197]), none, none, some (.getfield 123, 0, [4, 1], [111])],
  [none, some (.getfield 127, 0, [2, 1], [101]), none, none, some (.goto 5, 0, [25], []), none, none, some (.bipush (-4), 0, [], []), none, some (.ireturn, 0, [], [])]])
def km_X6_seed : kn_M := (⟨"KnotLaw", "seed", "(I)I"⟩, prog_1_method_16_code, 3, some .int, (0, 0), [
  [some (.iload_n 1, 0, [], []), some (.ifCond .ge 5, 0, [6], []), none, none, some (.iconst (-1), 0, [], []), some (.ireturn, 0, [], []), some (.aload_n 0, 0, [], []), some (.getfield 10, 0, [6, 0], [197]), none, none, some (.getfield 149, 0, [4, 7], [124]), none, none, some (.istore_n 2, 0, [], []), some (.aload_n 0, 0, [], []), some (.getfield 10, 0, [6, 0], [197])],
  [none, none, some (.iload_n 1, 0, [], []), some (.putfield 149, 0, [4, 7, 0], [124]), none, none, some (.iload_n 2, 0, [], []), some (.ireturn, 0, [], [])]])
def km_X6_falls : kn_M := (⟨"KnotLaw", "falls", "(I)I"⟩, prog_1_method_17_code, 2, some .int, (4, 88), [
  [some (.iload_n 1, 0, [], []), some (.invokestatic 130, 0, [92, 1, 6, 1, 0], [347, 32, 348]), none, none, some (.ifCond .ne 5, 0, [9], []), none, none, some (.iconst (-1), 0, [], []), some (.ireturn, 0, [], []), some (.aload_n 0, 0, [], []), some (.getfield 10, 0, [6, 0], [197]), none, none, some (.invokevirtual 152, 0, [36, 0, 4, 2, 0], [421, 33, 364, 365])],
  [some (.aload_n 0, 0, [], []), some (.getfield 10, 0, [6, 0], [197]), none, none, some (.aload_n 0, 0, [], []), some (.getfield 10, 0, [6, 0], [197]), none, none, some (.getfield 82, 0, [4, 3], [115]), none, none, some (.iload_n 1, 0, [], []), some (.invokevirtual 155, 0, [38, 2, 4, 6, 0], [422, 33, 369, 370]), none, none, some (.ireturn, 0, [], [])]])
def km_X6_pulls : kn_M := (⟨"KnotLaw", "pulls", "(II)I"⟩, prog_1_method_18_code, 3, some .int, (4, 91), [
  [some (.aload_n 0, 0, [], []), some (.iload_n 1, 0, [], []), some (.invokevirtual 66, 0, [96, 1, 6, 2, 0], [238, 32, 240, 0]), none, none, some (.ifCond .eq 10, 0, [15], []), none, none, some (.iload_n 2, 0, [], []), some (.invokestatic 130, 0, [92, 1, 6, 1, 0], [347, 32, 348]), none, none, some (.ifCond .ne 5, 0, [17], []), none, none, some (.iconst (-1), 0, [], [])],
  [some (.ireturn, 0, [], []), some (.aload_n 0, 0, [], []), some (.getfield 10, 0, [6, 0], [197]), none, none, some (.getfield 82, 0, [4, 3], [115]), none, none, some (.iload_n 1, 0, [], []), some (.invokestatic 85, 0, [97, 2, 6, 2, 0], [242, 32, 243]), none, none, some (.ifCond .ne 5, 0, [33], []), none, none, some (.iconst 0, 0, [], [])],
  [some (.ireturn, 0, [], []), some (.aload_n 0, 0, [], []), some (.getfield 10, 0, [6, 0], [197]), none, none, some (.iload_n 1, 0, [], []), some (.invokevirtual 159, 0, [41, 1, 4, 5, 0], [427, 33, 428, 429]), none, none, some (.iload_n 2, 0, [], []), some (.if_icmp .gt 18, 0, [60], []), none, none, some (.aload_n 0, 0, [], []), some (.getfield 22, 0, [6, 2], [199])],
  [none, some (.aload_n 0, 0, [], []), some (.getfield 10, 0, [6, 0], [197]), none, none, some (.iload_n 1, 0, [], []), some (.invokevirtual 162, 0, [5, 2, 1, 3, 0], [438, 36, 439, 440]), none, none, some (.goto 5, 0, [62], []), none, none, some (.bipush (-4), 0, [], []), none, some (.ireturn, 0, [], [])]])
def km_X6_force : kn_M := (⟨"KnotLaw", "force", "(II)I"⟩, prog_1_method_19_code, 4, some .int, (4, 91), [
  [some (.aload_n 0, 0, [], []), some (.iload_n 1, 0, [], []), some (.invokevirtual 66, 0, [96, 1, 6, 2, 0], [238, 32, 240, 0]), none, none, some (.ifCond .eq 13, 0, [18], []), none, none, some (.iload_n 2, 0, [], []), some (.iconst 1, 0, [], []), some (.bipush 8, 0, [], []), none, some (.invokestatic 44, 0, [91, 3, 6, 3, 0], [220, 32, 221]), none, none, some (.ifCond .ne 5, 0, [20], [])],
  [none, none, some (.iconst (-1), 0, [], []), some (.ireturn, 0, [], []), some (.aload_n 0, 0, [], []), some (.getfield 10, 0, [6, 0], [197]), none, none, some (.getfield 82, 0, [4, 3], [115]), none, none, some (.iload_n 1, 0, [], []), some (.invokestatic 85, 0, [97, 2, 6, 2, 0], [242, 32, 243]), none, none, some (.ifCond .ne 5, 0, [36], [])],
  [none, none, some (.iconst 0, 0, [], []), some (.ireturn, 0, [], []), some (.aload_n 0, 0, [], []), some (.getfield 10, 0, [6, 0], [197]), none, none, some (.iload_n 1, 0, [], []), some (.invokevirtual 159, 0, [41, 1, 4, 5, 0], [427, 33, 428, 429]), none, none, some (.istore_n 3, 0, [], []), some (.iload_n 3, 0, [], []), some (.bipush 99, 0, [], [])],
  [some (.if_icmp .gt 23, 0, [71], []), none, none, some (.aload_n 0, 0, [], []), some (.getfield 22, 0, [6, 2], [199]), none, none, some (.aload_n 0, 0, [], []), some (.getfield 10, 0, [6, 0], [197]), none, none, some (.iload_n 1, 0, [], []), some (.invokevirtual 162, 0, [5, 2, 1, 3, 0], [438, 36, 439, 440]), none, none, some (.iload_n 2, 0, [], [])],
  [some (.if_icmp .gt 7, 0, [71], []), none, none, some (.iload_n 3, 0, [], []), some (.goto 5, 0, [73], []), none, none, some (.bipush (-4), 0, [], []), none, some (.ireturn, 0, [], [])]])
def km_X6_needs : kn_M := (⟨"KnotLaw", "needs", "(I)I"⟩, prog_1_method_20_code, 2, some .int, (2, 44), [
  [some (.aload_n 0, 0, [], []), some (.iload_n 1, 0, [], []), some (.invokevirtual 66, 0, [96, 1, 6, 2, 0], [238, 32, 240, 0]), none, none, some (.ifCond .ne 5, 0, [10], []), none, none, some (.iconst (-1), 0, [], []), some (.ireturn, 0, [], []), some (.aload_n 0, 0, [], []), some (.getfield 10, 0, [6, 0], [197]), none, none, some (.iconst 1, 0, [], []), some (.iload_n 1, 0, [], [])],
  [some (.ishl, 0, [], []), some (.invokevirtual 166, 0, [40, 1, 4, 4, 0], [460, 33, 432, 433]), none, none, some (.iconst 1, 0, [], []), some (.iload_n 1, 0, [], []), some (.ishl, 0, [], []), some (.iconst (-1), 0, [], []), some (.ixor, 0, [], []), some (.iand, 0, [], []), some (.ireturn, 0, [], [])]])
def km_X6_deep : kn_M := (⟨"KnotLaw", "deep", "()I"⟩, prog_1_method_21_code, 1, some .int, (4, 89), [
  [some (.aload_n 0, 0, [], []), some (.getfield 22, 0, [6, 2], [199]), none, none, some (.aload_n 0, 0, [], []), some (.getfield 10, 0, [6, 0], [197]), none, none, some (.invokevirtual 169, 0, [6, 1, 1, 4, 0], [465, 36, 466, 467]), none, none, some (.ireturn, 0, [], [])]])
def km_X6_frees : kn_M := (⟨"KnotLaw", "frees", "(II)I"⟩, prog_1_method_22_code, 4, some .int, (2, 44), [
  [some (.iload_n 1, 0, [], []), some (.invokestatic 58, 0, [93, 1, 6, 1, 0], [223, 32, 224]), none, none, some (.ifCond .eq 12, 0, [16], []), none, none, some (.iload_n 2, 0, [], []), some (.iconst 0, 0, [], []), some (.iconst 1, 0, [], []), some (.invokestatic 44, 0, [91, 3, 6, 3, 0], [220, 32, 221]), none, none, some (.ifCond .ne 5, 0, [18], [])],
  [some (.iconst (-1), 0, [], []), some (.ireturn, 0, [], []), some (.aload_n 0, 0, [], []), some (.getfield 10, 0, [6, 0], [197]), none, none, some (.aload_n 0, 0, [], []), some (.getfield 10, 0, [6, 0], [197]), none, none, some (.getfield 48, 0, [4, 0], [108]), none, none, some (.iload_n 1, 0, [], []), some (.invokevirtual 96, 0, [2, 1, 0, 4, 0], [266, 34, 267, 268])],
  [none, some (.invokevirtual 166, 0, [40, 1, 4, 4, 0], [460, 33, 432, 433]), none, none, some (.istore_n 3, 0, [], []), some (.iload_n 2, 0, [], []), some (.ifCond .ne 10, 0, [48], []), none, none, some (.iload_n 3, 0, [], []), some (.invokestatic 173, 0, [170, 1, 0, 1, 0], [473, 42, 474]), none, none, some (.goto 4, 0, [49], [])],
  [some (.iload_n 3, 0, [], []), some (.ireturn, 0, [], [])]])
def km_X6_orders : kn_M := (⟨"KnotLaw", "orders", "(I)I"⟩, prog_1_method_23_code, 2, some .int, (4, 88), [
  [some (.iload_n 1, 0, [], []), some (.iconst (-1), 0, [], []), some (.if_icmp .ge 5, 0, [7], []), none, none, some (.iconst (-1), 0, [], []), some (.ireturn, 0, [], []), some (.iload_n 1, 0, [], []), some (.iconst (-1), 0, [], []), some (.if_icmp .ne 15, 0, [24], []), none, none, some (.aload_n 0, 0, [], []), some (.getfield 22, 0, [6, 2], [199])],
  [some (.aload_n 0, 0, [], []), some (.getfield 10, 0, [6, 0], [197]), none, none, some (.invokevirtual 178, 0, [9, 1, 1, 2, 0], [483, 36, 484, 485]), none, none, some (.ireturn, 0, [], []), some (.aload_n 0, 0, [], []), some (.getfield 10, 0, [6, 0], [197]), none, none, some (.getfield 82, 0, [4, 3], [115]), none, none, some (.iload_n 1, 0, [], [])],
  [some (.invokestatic 181, 0, [98, 2, 6, 4, 0], [499, 32, 500]), none, none, some (.ireturn, 0, [], [])]])
def km_X6_ahead : kn_M := (⟨"KnotLaw", "ahead", "(III)I"⟩, prog_1_method_24_code, 4, some .int, (4, 90), [
  [some (.aload_n 0, 0, [], []), some (.iload_n 1, 0, [], []), some (.invokevirtual 66, 0, [96, 1, 6, 2, 0], [238, 32, 240, 0]), none, none, some (.ifCond .eq 25, 0, [30], []), none, none, some (.aload_n 0, 0, [], []), some (.iload_n 2, 0, [], []), some (.invokevirtual 66, 0, [96, 1, 6, 2, 0], [238, 32, 240, 0]), none, none, some (.ifCond .eq 17, 0, [30], [])],
  [some (.iload_n 1, 0, [], []), some (.iload_n 2, 0, [], []), some (.if_icmp .eq 12, 0, [30], []), none, none, some (.iload_n 3, 0, [], []), some (.iconst 0, 0, [], []), some (.iconst 1, 0, [], []), some (.invokestatic 44, 0, [91, 3, 6, 3, 0], [220, 32, 221]), none, none, some (.ifCond .ne 5, 0, [32], []), none, none, some (.iconst (-1), 0, [], []), some (.ireturn, 0, [], [])],
  [some (.aload_n 0, 0, [], []), some (.getfield 10, 0, [6, 0], [197]), none, none, some (.getfield 82, 0, [4, 3], [115]), none, none, some (.iload_n 1, 0, [], []), some (.invokestatic 85, 0, [97, 2, 6, 2, 0], [242, 32, 243]), none, none, some (.ifCond .eq 17, 0, [60], []), none, none, some (.aload_n 0, 0, [], []), some (.getfield 10, 0, [6, 0], [197])],
  [none, none, some (.getfield 82, 0, [4, 3], [115]), none, none, some (.iload_n 2, 0, [], []), some (.invokestatic 85, 0, [97, 2, 6, 2, 0], [242, 32, 243]), none, none, some (.ifCond .ne 6, 0, [63], []), none, none, some (.bipush (-2), 0, [], []), none, some (.ireturn, 0, [], []), some (.iload_n 3, 0, [], [])],
  [some (.ifCond .ne 19, 0, [83], []), none, none, some (.aload_n 0, 0, [], []), some (.getfield 22, 0, [6, 2], [199]), none, none, some (.aload_n 0, 0, [], []), some (.getfield 10, 0, [6, 0], [197]), none, none, some (.iload_n 1, 0, [], []), some (.iload_n 2, 0, [], []), some (.invokevirtual 184, 0, [10, 3, 1, 4, 0], [506, 36, 507, 508])],
  [some (.goto 14, 0, [94], []), none, none, some (.aload_n 0, 0, [], []), some (.getfield 22, 0, [6, 2], [199]), none, none, some (.aload_n 0, 0, [], []), some (.getfield 10, 0, [6, 0], [197]), none, none, some (.invokevirtual 178, 0, [9, 1, 1, 2, 0], [483, 36, 484, 485]), none, none, some (.ireturn, 0, [], [])]])
def km_X6_game : kn_M := (⟨"KnotLaw", "game", "(II)I"⟩, prog_1_method_25_code, 4, some .int, (2, 44), [
  [some (.iload_n 1, 0, [], []), some (.iconst 0, 0, [], []), some (.iconst 1, 0, [], []), some (.invokestatic 44, 0, [91, 3, 6, 3, 0], [220, 32, 221]), none, none, some (.ifCond .eq 12, 0, [18], []), none, none, some (.iload_n 2, 0, [], []), some (.iconst 0, 0, [], []), some (.iconst 1, 0, [], []), some (.invokestatic 44, 0, [91, 3, 6, 3, 0], [220, 32, 221]), none, none, some (.ifCond .ne 5, 0, [20], [])],
  [none, none, some (.iconst (-1), 0, [], []), some (.ireturn, 0, [], []), some (.aload_n 0, 0, [], []), some (.getfield 10, 0, [6, 0], [197]), none, none, some (.getfield 82, 0, [4, 3], [115]), none, none, some (.invokestatic 173, 0, [170, 1, 0, 1, 0], [473, 42, 474]), none, none, some (.iload_n 1, 0, [], []), some (.iadd, 0, [], [])],
  [some (.iconst 2, 0, [], []), some (.irem, 0, [], []), some (.iconst 1, 0, [], []), some (.if_icmp .ne 7, 0, [42], []), none, none, some (.iconst 1, 0, [], []), some (.goto 4, 0, [43], []), none, none, some (.iconst 0, 0, [], []), some (.istore_n 3, 0, [], []), some (.iload_n 2, 0, [], []), some (.ifCond .ne 13, 0, [58], [])],
  [some (.iload_n 3, 0, [], []), some (.ifCond .eq 7, 0, [56], []), none, none, some (.iconst 1, 0, [], []), some (.goto 4, 0, [57], []), none, none, some (.iconst 0, 0, [], []), some (.ireturn, 0, [], []), some (.iload_n 3, 0, [], []), some (.ifCond .eq 24, 0, [83], []), none, none, some (.aload_n 0, 0, [], []), some (.getfield 10, 0, [6, 0], [197])],
  [none, none, some (.aload_n 0, 0, [], []), some (.getfield 10, 0, [6, 0], [197]), none, none, some (.getfield 82, 0, [4, 3], [115]), none, none, some (.invokevirtual 89, 0, [37, 1, 4, 4, 0], [245, 33, 246, 247]), none, none, some (.iconst 0, 0, [], []), some (.invokestatic 181, 0, [98, 2, 6, 4, 0], [499, 32, 500])],
  [some (.goto 5, 0, [85], []), none, none, some (.bipush (-4), 0, [], []), none, some (.ireturn, 0, [], [])]])
def km_X6_cuts : kn_M := (⟨"KnotLaw", "cuts", "(III)I"⟩, prog_1_method_26_code, 5, some .int, (3, 67), [
  [some (.aload_n 0, 0, [], []), some (.iload_n 1, 0, [], []), some (.invokevirtual 66, 0, [96, 1, 6, 2, 0], [238, 32, 240, 0]), none, none, some (.ifCond .eq 19, 0, [24], []), none, none, some (.iload_n 2, 0, [], []), some (.invokestatic 130, 0, [92, 1, 6, 1, 0], [347, 32, 348]), none, none, some (.ifCond .eq 12, 0, [24], []), none, none, some (.iload_n 3, 0, [], [])],
  [some (.iconst 0, 0, [], []), some (.iconst 1, 0, [], []), some (.invokestatic 44, 0, [91, 3, 6, 3, 0], [220, 32, 221]), none, none, some (.ifCond .ne 5, 0, [26], []), none, none, some (.iconst (-1), 0, [], []), some (.ireturn, 0, [], []), some (.aload_n 0, 0, [], []), some (.getfield 10, 0, [6, 0], [197]), none, none, some (.getfield 82, 0, [4, 3], [115])],
  [none, some (.iload_n 1, 0, [], []), some (.invokestatic 85, 0, [97, 2, 6, 2, 0], [242, 32, 243]), none, none, some (.ifCond .eq 15, 0, [52], []), none, none, some (.aload_n 0, 0, [], []), some (.getfield 10, 0, [6, 0], [197]), none, none, some (.iload_n 1, 0, [], []), some (.invokevirtual 93, 0, [34, 1, 4, 2, 0], [250, 33, 251, 252])],
  [some (.iload_n 2, 0, [], []), some (.if_icmp .le 6, 0, [55], []), none, none, some (.bipush (-4), 0, [], []), none, some (.ireturn, 0, [], []), some (.aload_n 0, 0, [], []), some (.getfield 10, 0, [6, 0], [197]), none, none, some (.getfield 48, 0, [4, 0], [108]), none, none, some (.getfield 76, 0, [0, 2], [70])],
  [none, some (.iload_n 1, 0, [], []), some (.iaload, 0, [], []), some (.aload_n 0, 0, [], []), some (.getfield 10, 0, [6, 0], [197]), none, none, some (.getfield 82, 0, [4, 3], [115]), none, none, some (.iand, 0, [], []), some (.istore 4, 0, [], []), none, some (.iload_n 3, 0, [], []), some (.ifCond .ne 11, 0, [89], [])],
  [none, some (.iload 4, 0, [], []), none, some (.invokestatic 173, 0, [170, 1, 0, 1, 0], [473, 42, 474]), none, none, some (.goto 5, 0, [91], []), none, none, some (.iload 4, 0, [], []), none, some (.ireturn, 0, [], [])]])
def km_X6_weather : kn_M := (⟨"KnotLaw", "weather", "(II)I"⟩, prog_1_method_27_code, 4, some .int, (2, 46), [
  [some (.aload_n 0, 0, [], []), some (.iload_n 1, 0, [], []), some (.invokevirtual 66, 0, [96, 1, 6, 2, 0], [238, 32, 240, 0]), none, none, some (.ifCond .eq 10, 0, [15], []), none, none, some (.iload_n 2, 0, [], []), some (.invokestatic 130, 0, [92, 1, 6, 1, 0], [347, 32, 348]), none, none, some (.ifCond .ne 5, 0, [17], []), none, none, some (.iconst (-1), 0, [], [])],
  [some (.ireturn, 0, [], []), some (.iconst 0, 0, [], []), some (.istore_n 3, 0, [], []), some (.iload_n 3, 0, [], []), some (.bipush 60, 0, [], []), none, some (.if_icmp .gt 32, 0, [54], []), none, none, some (.aload_n 0, 0, [], []), some (.getfield 10, 0, [6, 0], [197]), none, none, some (.iload_n 1, 0, [], []), some (.aload_n 0, 0, [], []), some (.getfield 10, 0, [6, 0], [197])],
  [none, none, some (.getfield 111, 0, [4, 6], [122]), none, none, some (.iload_n 3, 0, [], []), some (.iadd, 0, [], []), some (.invokevirtual 188, 0, [33, 2, 4, 3, 0], [522, 33, 255, 256]), none, none, some (.iload_n 2, 0, [], []), some (.if_icmp .gt 5, 0, [48], []), none, none, some (.iload_n 3, 0, [], []), some (.ireturn, 0, [], [])],
  [some (.iinc 3 1, 0, [], []), none, none, some (.goto (-32), 0, [19], []), none, none, some (.bipush (-4), 0, [], []), none, some (.ireturn, 0, [], [])]])
def km_X6_rotten : kn_M := (⟨"KnotLaw", "rotten", "(IIII)I"⟩, prog_1_method_28_code, 9, some .int, (3, 67), [
  [some (.aload_n 0, 0, [], []), some (.iload_n 1, 0, [], []), some (.invokevirtual 66, 0, [96, 1, 6, 2, 0], [238, 32, 240, 0]), none, none, some (.ifCond .eq 30, 0, [35], []), none, none, some (.iload_n 2, 0, [], []), some (.invokestatic 130, 0, [92, 1, 6, 1, 0], [347, 32, 348]), none, none, some (.ifCond .eq 23, 0, [35], []), none, none, some (.iload_n 3, 0, [], [])],
  [some (.iconst 0, 0, [], []), some (.bipush 10, 0, [], []), none, some (.invokestatic 44, 0, [91, 3, 6, 3, 0], [220, 32, 221]), none, none, some (.ifCond .eq 13, 0, [35], []), none, none, some (.iload 4, 0, [], []), none, some (.iconst 0, 0, [], []), some (.iconst 1, 0, [], []), some (.invokestatic 44, 0, [91, 3, 6, 3, 0], [220, 32, 221])],
  [some (.ifCond .ne 5, 0, [37], []), none, none, some (.iconst (-1), 0, [], []), some (.ireturn, 0, [], []), some (.aload_n 0, 0, [], []), some (.getfield 10, 0, [6, 0], [197]), none, none, some (.getfield 82, 0, [4, 3], [115]), none, none, some (.iload_n 1, 0, [], []), some (.invokestatic 85, 0, [97, 2, 6, 2, 0], [242, 32, 243])],
  [some (.ifCond .ne 5, 0, [53], []), none, none, some (.iconst 1, 0, [], []), some (.ireturn, 0, [], []), some (.iload_n 3, 0, [], []), some (.istore 5, 0, [], []), none, some (.bipush 10, 0, [], []), none, some (.istore 6, 0, [], []), none, some (.aload_n 0, 0, [], []), some (.getfield 10, 0, [6, 0], [197])],
  [some (.iload_n 1, 0, [], []), some (.invokevirtual 93, 0, [34, 1, 4, 2, 0], [250, 33, 251, 252]), none, none, some (.iload_n 2, 0, [], []), some (.if_icmp .gt 62, 0, [131], []), none, none, some (.aload_n 0, 0, [], []), some (.getfield 10, 0, [6, 0], [197]), none, none, some (.getfield 48, 0, [4, 0], [108]), none, none, some (.getfield 76, 0, [0, 2], [70])],
  [none, none, some (.iload_n 1, 0, [], []), some (.iaload, 0, [], []), some (.aload_n 0, 0, [], []), some (.getfield 10, 0, [6, 0], [197]), none, none, some (.getfield 82, 0, [4, 3], [115]), none, none, some (.iand, 0, [], []), some (.invokestatic 173, 0, [170, 1, 0, 1, 0], [473, 42, 474]), none, none, some (.istore 7, 0, [], [])],
  [none, some (.bipush 10, 0, [], []), none, some (.iload 7, 0, [], []), none, some (.invokestatic 191, 0, [99, 2, 6, 4, 0], [527, 32, 528]), none, none, some (.istore 8, 0, [], []), none, some (.iload_n 3, 0, [], []), some (.iload 8, 0, [], []), none, some (.imul, 0, [], []), some (.bipush 10, 0, [], [])],
  [some (.iload_n 3, 0, [], []), some (.isub, 0, [], []), some (.iload_n 3, 0, [], []), some (.iload 7, 0, [], []), none, some (.invokestatic 191, 0, [99, 2, 6, 4, 0], [527, 32, 528]), none, none, some (.imul, 0, [], []), some (.iadd, 0, [], []), some (.istore 5, 0, [], []), none, some (.bipush 10, 0, [], []), none, some (.iload 8, 0, [], [])],
  [some (.imul, 0, [], []), some (.istore 6, 0, [], []), none, some (.iload 4, 0, [], []), none, some (.ifCond .ne 13, 0, [146], []), none, none, some (.iload 5, 0, [], []), none, some (.iload 6, 0, [], []), none, some (.invokestatic 194, 0, [100, 2, 6, 5, 0], [530, 32, 531]), none, none, some (.goto 10, 0, [153], [])],
  [none, none, some (.iload 6, 0, [], []), none, some (.iload 5, 0, [], []), none, some (.invokestatic 194, 0, [100, 2, 6, 5, 0], [530, 32, 531]), none, none, some (.ireturn, 0, [], [])]])
def km_X6_image : kn_M := (⟨"KnotLaw", "image", "()I"⟩, prog_1_method_29_code, 1, some .int, (3, 68), [
  [some (.aload_n 0, 0, [], []), some (.getfield 16, 0, [6, 1], [198]), none, none, some (.aload_n 0, 0, [], []), some (.getfield 10, 0, [6, 0], [197]), none, none, some (.invokevirtual 197, 0, [31, 1, 4, 2, 0], [537, 33, 538, 539]), none, none, some (.aload_n 0, 0, [], []), some (.iconst 1, 0, [], []), some (.putfield 40, 0, [6, 5, 2], [202])],
  [some (.iconst 1, 0, [], []), some (.ireturn, 0, [], [])]])
def km_X6_restore : kn_M := (⟨"KnotLaw", "restore", "()I"⟩, prog_1_method_30_code, 1, some .int, (3, 68), [
  [some (.aload_n 0, 0, [], []), some (.getfield 40, 0, [6, 5], [202]), none, none, some (.ifCond .ne 6, 0, [10], []), none, none, some (.bipush (-4), 0, [], []), none, some (.ireturn, 0, [], []), some (.aload_n 0, 0, [], []), some (.getfield 10, 0, [6, 0], [197]), none, none, some (.aload_n 0, 0, [], []), some (.getfield 16, 0, [6, 1], [198])],
  [none, none, some (.invokevirtual 197, 0, [31, 1, 4, 2, 0], [537, 33, 538, 539]), none, none, some (.iconst 1, 0, [], []), some (.ireturn, 0, [], [])]])
def km_X6_felt : kn_M := (⟨"KnotLaw", "felt", "(IIIIII)I"⟩, prog_1_method_31_code, 8, some .int, (5, 121), [
  [some (.aload_n 0, 0, [], []), some (.iload_n 1, 0, [], []), some (.invokevirtual 66, 0, [96, 1, 6, 2, 0], [238, 32, 240, 0]), none, none, some (.ifCond .eq 17, 0, [22], []), none, none, some (.iload_n 2, 0, [], []), some (.invokestatic 201, 0, [94, 1, 6, 1, 0], [553, 32, 554]), none, none, some (.ifCond .eq 10, 0, [22], []), none, none, some (.iload_n 3, 0, [], [])],
  [some (.invokestatic 204, 0, [95, 1, 6, 1, 0], [556, 32, 557]), none, none, some (.ifCond .ne 5, 0, [24], []), none, none, some (.iconst (-1), 0, [], []), some (.ireturn, 0, [], []), some (.iload 5, 0, [], []), none, some (.iconst 1, 0, [], []), some (.bipush 6, 0, [], []), none, some (.invokestatic 44, 0, [91, 3, 6, 3, 0], [220, 32, 221])],
  [some (.ifCond .eq 13, 0, [45], []), none, none, some (.iload 6, 0, [], []), none, some (.iconst 0, 0, [], []), some (.iconst 1, 0, [], []), some (.invokestatic 44, 0, [91, 3, 6, 3, 0], [220, 32, 221]), none, none, some (.ifCond .ne 5, 0, [47], []), none, none, some (.iconst (-1), 0, [], []), some (.ireturn, 0, [], []), some (.aload_n 0, 0, [], [])],
  [some (.getfield 36, 0, [6, 4], [201]), none, none, some (.iload_n 2, 0, [], []), some (.iload_n 3, 0, [], []), some (.iload 4, 0, [], []), none, some (.iconst 2, 0, [], []), some (.iload 5, 0, [], []), none, some (.imul, 0, [], []), some (.invokevirtual 207, 0, [49, 4, 5, 5, 0], [559, 38, 560, 561]), none, none, some (.istore 7, 0, [], [])],
  [some (.iload 7, 0, [], []), none, some (.ifCond .eq 6, 0, [72], []), none, none, some (.iload 7, 0, [], []), none, some (.ireturn, 0, [], []), some (.aload_n 0, 0, [], []), some (.iload_n 2, 0, [], []), some (.iload 4, 0, [], []), none, some (.iload 5, 0, [], []), none, some (.invokevirtual 210, 0, [101, 3, 6, 7, 0], [567, 32, 569, 13])],
  [none, some (.ifCond .ne 6, 0, [87], []), none, none, some (.bipush (-2), 0, [], []), none, some (.ireturn, 0, [], []), some (.iload 6, 0, [], []), none, some (.ifCond .ne 16, 0, [105], []), none, none, some (.aload_n 0, 0, [], []), some (.iload_n 1, 0, [], []), some (.iload_n 2, 0, [], []), some (.iload 4, 0, [], [])],
  [none, some (.iload 5, 0, [], []), none, some (.invokevirtual 213, 0, [102, 4, 6, 7, 0], [576, 32, 578, 14]), none, none, some (.goto 13, 0, [115], []), none, none, some (.aload_n 0, 0, [], []), some (.iload_n 1, 0, [], []), some (.iload_n 2, 0, [], []), some (.iload 4, 0, [], []), none, some (.iload 5, 0, [], [])],
  [some (.invokevirtual 216, 0, [103, 4, 6, 7, 0], [585, 32, 587, 16]), none, none, some (.ireturn, 0, [], [])]])
def km_X6_film : kn_M := (⟨"KnotLaw", "film", "(IIIII)I"⟩, prog_1_method_32_code, 9, some .int, (4, 88), [
  [some (.iload_n 1, 0, [], []), some (.invokestatic 130, 0, [92, 1, 6, 1, 0], [347, 32, 348]), none, none, some (.ifCond .eq 28, 0, [32], []), none, none, some (.iload_n 2, 0, [], []), some (.iconst 1, 0, [], []), some (.bipush 24, 0, [], []), none, some (.invokestatic 44, 0, [91, 3, 6, 3, 0], [220, 32, 221]), none, none, some (.ifCond .eq 18, 0, [32], [])],
  [none, some (.iload_n 3, 0, [], []), some (.invokestatic 201, 0, [94, 1, 6, 1, 0], [553, 32, 554]), none, none, some (.ifCond .eq 11, 0, [32], []), none, none, some (.iload 4, 0, [], []), none, some (.invokestatic 204, 0, [95, 1, 6, 1, 0], [556, 32, 557]), none, none, some (.ifCond .ne 5, 0, [34], [])],
  [some (.iconst (-1), 0, [], []), some (.ireturn, 0, [], []), some (.aload_n 0, 0, [], []), some (.getfield 36, 0, [6, 4], [201]), none, none, some (.iload_n 3, 0, [], []), some (.iload 4, 0, [], []), none, some (.iload 5, 0, [], []), none, some (.iload_n 2, 0, [], []), some (.invokevirtual 207, 0, [49, 4, 5, 5, 0], [559, 38, 560, 561]), none, none, some (.istore 6, 0, [], [])],
  [none, some (.iload 6, 0, [], []), none, some (.ifCond .eq 6, 0, [57], []), none, none, some (.iload 6, 0, [], []), none, some (.ireturn, 0, [], []), some (.aload_n 0, 0, [], []), some (.getfield 10, 0, [6, 0], [197]), none, none, some (.invokevirtual 152, 0, [36, 0, 4, 2, 0], [421, 33, 364, 365])],
  [some (.aload_n 0, 0, [], []), some (.getfield 10, 0, [6, 0], [197]), none, none, some (.getfield 82, 0, [4, 3], [115]), none, none, some (.istore 7, 0, [], []), none, some (.iconst 0, 0, [], []), some (.istore 8, 0, [], []), none, some (.iload 8, 0, [], []), none, some (.iload_n 2, 0, [], []), some (.if_icmp .ge 45, 0, [124], [])],
  [none, none, some (.iload 7, 0, [], []), none, some (.aload_n 0, 0, [], []), some (.getfield 10, 0, [6, 0], [197]), none, none, some (.iload 7, 0, [], []), none, some (.iload_n 1, 0, [], []), some (.invokevirtual 155, 0, [38, 2, 4, 6, 0], [422, 33, 369, 370]), none, none, some (.iconst (-1), 0, [], []), some (.ixor, 0, [], [])],
  [some (.iand, 0, [], []), some (.istore 7, 0, [], []), none, some (.aload_n 0, 0, [], []), some (.getfield 36, 0, [6, 4], [201]), none, none, some (.iload_n 3, 0, [], []), some (.iload 5, 0, [], []), none, some (.iload 8, 0, [], []), none, some (.iadd, 0, [], []), some (.iload 7, 0, [], []), none, some (.invokestatic 173, 0, [170, 1, 0, 1, 0], [473, 42, 474])],
  [none, none, some (.i2l, 0, [], []), some (.invokevirtual 219, 0, [52, 3, 5, 5, 0], [593, 38, 594, 595]), none, none, some (.iinc 8 1, 0, [], []), none, none, some (.goto (-45), 0, [76], []), none, none, some (.iload_n 2, 0, [], []), some (.ireturn, 0, [], [])]])
def km_X6_sheet : kn_M := (⟨"KnotLaw", "sheet", "(III)I"⟩, prog_1_method_33_code, 4, some .int, (3, 71), [
  [some (.iload_n 1, 0, [], []), some (.invokestatic 201, 0, [94, 1, 6, 1, 0], [553, 32, 554]), none, none, some (.ifCond .eq 16, 0, [20], []), none, none, some (.iload_n 2, 0, [], []), some (.invokestatic 204, 0, [95, 1, 6, 1, 0], [556, 32, 557]), none, none, some (.ifCond .eq 9, 0, [20], []), none, none, some (.iload_n 3, 0, [], []), some (.bipush 24, 0, [], [])],
  [none, some (.if_icmp .le 5, 0, [22], []), none, none, some (.iconst (-1), 0, [], []), some (.ireturn, 0, [], []), some (.iload_n 3, 0, [], []), some (.ifCond .ge 6, 0, [29], []), none, none, some (.bipush (-14), 0, [], []), none, some (.ireturn, 0, [], []), some (.aload_n 0, 0, [], []), some (.getfield 36, 0, [6, 4], [201])],
  [none, some (.iload_n 1, 0, [], []), some (.iload_n 2, 0, [], []), some (.iload_n 3, 0, [], []), some (.invokevirtual 223, 0, [47, 3, 5, 5, 0], [604, 38, 605, 606]), none, none, some (.iload_n 3, 0, [], []), some (.ireturn, 0, [], [])]])
def km_X6_drop : kn_M := (⟨"KnotLaw", "drop", "(I)I"⟩, prog_1_method_34_code, 2, some .int, (2, 42), [
  [some (.iload_n 1, 0, [], []), some (.invokestatic 201, 0, [94, 1, 6, 1, 0], [553, 32, 554]), none, none, some (.ifCond .ne 5, 0, [9], []), none, none, some (.iconst (-1), 0, [], []), some (.ireturn, 0, [], []), some (.aload_n 0, 0, [], []), some (.getfield 36, 0, [6, 4], [201]), none, none, some (.iload_n 1, 0, [], []), some (.invokevirtual 227, 0, [48, 1, 5, 2, 0], [613, 38, 614, 615])],
  [none, some (.ireturn, 0, [], [])]])
def km_X6_item : kn_M := (⟨"KnotLaw", "item", "(IIIJ)I"⟩, prog_1_method_35_code, 7, some .int, (2, 47), [
  [some (.iload_n 1, 0, [], []), some (.invokestatic 201, 0, [94, 1, 6, 1, 0], [553, 32, 554]), none, none, some (.ifCond .eq 10, 0, [14], []), none, none, some (.iload_n 2, 0, [], []), some (.invokestatic 204, 0, [95, 1, 6, 1, 0], [556, 32, 557]), none, none, some (.ifCond .ne 5, 0, [16], []), none, none, some (.iconst (-1), 0, [], []), some (.ireturn, 0, [], [])],
  [some (.aload_n 0, 0, [], []), some (.getfield 36, 0, [6, 4], [201]), none, none, some (.iload_n 1, 0, [], []), some (.iload_n 2, 0, [], []), some (.iload_n 3, 0, [], []), some (.iconst 1, 0, [], []), some (.invokevirtual 207, 0, [49, 4, 5, 5, 0], [559, 38, 560, 561]), none, none, some (.istore 6, 0, [], []), none, some (.iload 6, 0, [], []), none, some (.ifCond .eq 6, 0, [37], [])],
  [none, none, some (.iload 6, 0, [], []), none, some (.ireturn, 0, [], []), some (.aload_n 0, 0, [], []), some (.getfield 36, 0, [6, 4], [201]), none, none, some (.iload_n 1, 0, [], []), some (.iload_n 3, 0, [], []), some (.lload 4, 0, [], []), none, some (.invokevirtual 219, 0, [52, 3, 5, 5, 0], [593, 38, 594, 595])],
  [some (.iconst 1, 0, [], []), some (.ireturn, 0, [], [])]])
def km_X6_copy : kn_M := (⟨"KnotLaw", "copy", "(IIIII)I"⟩, prog_1_method_36_code, 6, some .int, (2, 51), [
  [some (.iload_n 1, 0, [], []), some (.invokestatic 201, 0, [94, 1, 6, 1, 0], [553, 32, 554]), none, none, some (.ifCond .eq 10, 0, [14], []), none, none, some (.iload_n 3, 0, [], []), some (.invokestatic 201, 0, [94, 1, 6, 1, 0], [553, 32, 554]), none, none, some (.ifCond .ne 5, 0, [16], []), none, none, some (.iconst (-1), 0, [], []), some (.ireturn, 0, [], [])],
  [some (.aload_n 0, 0, [], []), some (.getfield 36, 0, [6, 4], [201]), none, none, some (.iload_n 1, 0, [], []), some (.iload_n 2, 0, [], []), some (.iload_n 3, 0, [], []), some (.iload 4, 0, [], []), none, some (.iload 5, 0, [], []), none, some (.invokevirtual 230, 0, [54, 5, 5, 6, 0], [625, 38, 626, 627]), none, none, some (.ireturn, 0, [], [])]])
def km_X6_isWithin : kn_M := (⟨"KnotLaw", "isWithin", "(III)Z"⟩, prog_1_method_37_code, 3, some .boolean, (0, 0), [
  [some (.iload_n 0, 0, [], []), some (.iload_n 1, 0, [], []), some (.if_icmp .lt 12, 0, [14], []), none, none, some (.iload_n 0, 0, [], []), some (.iload_n 2, 0, [], []), some (.if_icmp .gt 7, 0, [14], []), none, none, some (.iconst 1, 0, [], []), some (.goto 4, 0, [15], []), none, none, some (.iconst 0, 0, [], []), some (.ireturn, 0, [], [])]])
def km_X6_isForce : kn_M := (⟨"KnotLaw", "isForce", "(I)Z"⟩, prog_1_method_38_code, 1, some .boolean, (1, 22), [
  [some (.iload_n 0, 0, [], []), some (.iconst 0, 0, [], []), some (.bipush 99, 0, [], []), none, some (.invokestatic 44, 0, [91, 3, 6, 3, 0], [220, 32, 221]), none, none, some (.ireturn, 0, [], [])]])
def km_X6_isParty : kn_M := (⟨"KnotLaw", "isParty", "(I)Z"⟩, prog_1_method_39_code, 1, some .boolean, (1, 22), [
  [some (.iload_n 0, 0, [], []), some (.iconst 0, 0, [], []), some (.iconst 3, 0, [], []), some (.invokestatic 44, 0, [91, 3, 6, 3, 0], [220, 32, 221]), none, none, some (.ireturn, 0, [], [])]])
def km_X6_isSheet : kn_M := (⟨"KnotLaw", "isSheet", "(I)Z"⟩, prog_1_method_40_code, 1, some .boolean, (1, 22), [
  [some (.iload_n 0, 0, [], []), some (.iconst 0, 0, [], []), some (.iconst 3, 0, [], []), some (.invokestatic 44, 0, [91, 3, 6, 3, 0], [220, 32, 221]), none, none, some (.ireturn, 0, [], [])]])
def km_X6_isLane : kn_M := (⟨"KnotLaw", "isLane", "(I)Z"⟩, prog_1_method_41_code, 1, some .boolean, (1, 22), [
  [some (.iload_n 0, 0, [], []), some (.iconst 0, 0, [], []), some (.iconst 3, 0, [], []), some (.invokestatic 44, 0, [91, 3, 6, 3, 0], [220, 32, 221]), none, none, some (.ireturn, 0, [], [])]])
def km_X6_isClause : kn_M := (⟨"KnotLaw", "isClause", "(I)Z"⟩, prog_1_method_42_code, 2, some .boolean, (0, 0), [
  [some (.iload_n 1, 0, [], []), some (.ifCond .lt 27, 0, [28], []), none, none, some (.iload_n 1, 0, [], []), some (.aload_n 0, 0, [], []), some (.getfield 10, 0, [6, 0], [197]), none, none, some (.getfield 48, 0, [4, 0], [108]), none, none, some (.getfield 52, 0, [0, 4], [76]), none, none, some (.if_icmp .ge 13, 0, [28], [])],
  [none, none, some (.iload_n 1, 0, [], []), some (.bipush 8, 0, [], []), none, some (.if_icmp .ge 7, 0, [28], []), none, none, some (.iconst 1, 0, [], []), some (.goto 4, 0, [29], []), none, none, some (.iconst 0, 0, [], []), some (.ireturn, 0, [], [])]])
def km_X6_has : kn_M := (⟨"KnotLaw", "has", "(II)Z"⟩, prog_1_method_43_code, 2, some .boolean, (0, 0), [
  [some (.iload_n 0, 0, [], []), some (.iload_n 1, 0, [], []), some (.ishr, 0, [], []), some (.iconst 1, 0, [], []), some (.iand, 0, [], []), some (.ifCond .eq 7, 0, [12], []), none, none, some (.iconst 1, 0, [], []), some (.goto 4, 0, [13], []), none, none, some (.iconst 0, 0, [], []), some (.ireturn, 0, [], [])]])
def km_X6_nthOf : kn_M := (⟨"KnotLaw", "nthOf", "(II)I"⟩, prog_1_method_44_code, 4, some .int, (1, 21), [
  [some (.iload_n 1, 0, [], []), some (.istore_n 2, 0, [], []), some (.iconst 0, 0, [], []), some (.istore_n 3, 0, [], []), some (.iload_n 3, 0, [], []), some (.bipush 8, 0, [], []), none, some (.if_icmp .ge 26, 0, [33], []), none, none, some (.iload_n 0, 0, [], []), some (.iload_n 3, 0, [], []), some (.invokestatic 85, 0, [97, 2, 6, 2, 0], [242, 32, 243]), none, none, some (.ifCond .eq 12, 0, [27], [])],
  [none, none, some (.iload_n 2, 0, [], []), some (.ifCond .ne 5, 0, [24], []), none, none, some (.iload_n 3, 0, [], []), some (.ireturn, 0, [], []), some (.iinc 2 (-1), 0, [], []), none, none, some (.iinc 3 1, 0, [], []), none, none, some (.goto (-26), 0, [4], [])],
  [none, some (.bipush (-4), 0, [], []), none, some (.ireturn, 0, [], [])]])
def km_X6_powerOf : kn_M := (⟨"KnotLaw", "powerOf", "(II)I"⟩, prog_1_method_45_code, 4, some .int, (0, 0), [
  [some (.iconst 1, 0, [], []), some (.istore_n 2, 0, [], []), some (.iconst 0, 0, [], []), some (.istore_n 3, 0, [], []), some (.iload_n 3, 0, [], []), some (.iload_n 1, 0, [], []), some (.if_icmp .ge 13, 0, [19], []), none, none, some (.iload_n 2, 0, [], []), some (.iload_n 0, 0, [], []), some (.imul, 0, [], []), some (.istore_n 2, 0, [], []), some (.iinc 3 1, 0, [], [])],
  [some (.goto (-12), 0, [4], []), none, none, some (.iload_n 2, 0, [], []), some (.ireturn, 0, [], [])]])
def km_X6_lowestPartOf : kn_M := (⟨"KnotLaw", "lowestPartOf", "(II)I"⟩, prog_1_method_46_code, 5, some .int, (0, 0), [
  [some (.iload_n 0, 0, [], []), some (.istore_n 2, 0, [], []), some (.iload_n 1, 0, [], []), some (.istore_n 3, 0, [], []), some (.iconst 0, 0, [], []), some (.istore 4, 0, [], []), none, some (.iload 4, 0, [], []), none, some (.bipush 8, 0, [], []), none, some (.if_icmp .ge 49, 0, [60], []), none, none, some (.iload_n 2, 0, [], []), some (.iconst 2, 0, [], [])],
  [some (.irem, 0, [], []), some (.ifCond .ne 17, 0, [34], []), none, none, some (.iload_n 3, 0, [], []), some (.iconst 2, 0, [], []), some (.irem, 0, [], []), some (.ifCond .ne 11, 0, [34], []), none, none, some (.iload_n 2, 0, [], []), some (.iconst 2, 0, [], []), some (.idiv, 0, [], []), some (.istore_n 2, 0, [], []), some (.iload_n 3, 0, [], []), some (.iconst 2, 0, [], [])],
  [some (.idiv, 0, [], []), some (.istore_n 3, 0, [], []), some (.iload_n 2, 0, [], []), some (.iconst 5, 0, [], []), some (.irem, 0, [], []), some (.ifCond .ne 17, 0, [54], []), none, none, some (.iload_n 3, 0, [], []), some (.iconst 5, 0, [], []), some (.irem, 0, [], []), some (.ifCond .ne 11, 0, [54], []), none, none, some (.iload_n 2, 0, [], []), some (.iconst 5, 0, [], [])],
  [some (.idiv, 0, [], []), some (.istore_n 2, 0, [], []), some (.iload_n 3, 0, [], []), some (.iconst 5, 0, [], []), some (.idiv, 0, [], []), some (.istore_n 3, 0, [], []), some (.iinc 4 1, 0, [], []), none, none, some (.goto (-50), 0, [7], []), none, none, some (.iload_n 2, 0, [], []), some (.ireturn, 0, [], [])]])
def km_X6_areForces : kn_M := (⟨"KnotLaw", "areForces", "(III)Z"⟩, prog_1_method_47_code, 7, some .boolean, (2, 45), [
  [some (.iconst 0, 0, [], []), some (.istore 4, 0, [], []), none, some (.iload 4, 0, [], []), none, some (.iload_n 3, 0, [], []), some (.if_icmp .ge 43, 0, [49], []), none, none, some (.aload_n 0, 0, [], []), some (.getfield 36, 0, [6, 4], [201]), none, none, some (.iload_n 1, 0, [], []), some (.iload_n 2, 0, [], []), some (.iconst 2, 0, [], [])],
  [some (.iload 4, 0, [], []), none, some (.imul, 0, [], []), some (.iadd, 0, [], []), some (.invokevirtual 234, 0, [51, 2, 5, 3, 0], [571, 38, 572, 573]), none, none, some (.lstore 5, 0, [], []), none, some (.lload 5, 0, [], []), none, some (.lconst 0, 0, [], []), some (.lcmp, 0, [], []), some (.ifCond .lt 12, 0, [41], [])],
  [some (.lload 5, 0, [], []), none, some (.ldc2_w 238, 0, [99], [575]), none, none, some (.lcmp, 0, [], []), some (.ifCond .le 5, 0, [43], []), none, none, some (.iconst 0, 0, [], []), some (.ireturn, 0, [], []), some (.iinc 4 1, 0, [], []), none, none, some (.goto (-43), 0, [3], [])],
  [none, some (.iconst 1, 0, [], []), some (.ireturn, 0, [], [])]])
def km_X6_kindsFelt : kn_M := (⟨"KnotLaw", "kindsFelt", "(IIII)I"⟩, prog_1_method_48_code, 7, some .int, (4, 95), [
  [some (.iconst 0, 0, [], []), some (.istore 5, 0, [], []), none, some (.aload_n 0, 0, [], []), some (.getfield 10, 0, [6, 0], [197]), none, none, some (.invokevirtual 152, 0, [36, 0, 4, 2, 0], [421, 33, 364, 365]), none, none, some (.iconst 0, 0, [], []), some (.istore 6, 0, [], []), none, some (.iload 6, 0, [], []), none, some (.iconst 5, 0, [], [])],
  [some (.if_icmp .ge 66, 0, [82], []), none, none, some (.aload_n 0, 0, [], []), some (.getfield 10, 0, [6, 0], [197]), none, none, some (.getfield 240, 0, [4, 2], [113]), none, none, some (.iload_n 1, 0, [], []), some (.aload_n 0, 0, [], []), some (.getfield 10, 0, [6, 0], [197]), none, none, some (.iload 6, 0, [], [])],
  [none, some (.aload_n 0, 0, [], []), some (.getfield 10, 0, [6, 0], [197]), none, none, some (.getfield 48, 0, [4, 0], [108]), none, none, some (.getfield 73, 0, [0, 1], [67]), none, none, some (.iload_n 1, 0, [], []), some (.iaload, 0, [], []), some (.aload_n 0, 0, [], []), some (.getfield 10, 0, [6, 0], [197])],
  [none, some (.getfield 111, 0, [4, 6], [122]), none, none, some (.invokevirtual 243, 0, [32, 3, 4, 5, 0], [580, 33, 259, 260]), none, none, some (.iastore, 0, [], []), some (.aload_n 0, 0, [], []), some (.iload_n 2, 0, [], []), some (.iload_n 3, 0, [], []), some (.iload 4, 0, [], []), none, some (.invokevirtual 247, 0, [104, 3, 6, 7, 0], [581, 32, 583, 15])],
  [some (.ifCond .eq 12, 0, [76], []), none, none, some (.iload 5, 0, [], []), none, some (.iconst 1, 0, [], []), some (.iload 6, 0, [], []), none, some (.ishl, 0, [], []), some (.ior, 0, [], []), some (.istore 5, 0, [], []), none, some (.iinc 6 1, 0, [], []), none, none, some (.goto (-66), 0, [13], [])],
  [none, none, some (.iload 5, 0, [], []), none, some (.ireturn, 0, [], [])]])
def km_X6_holdsFelt : kn_M := (⟨"KnotLaw", "holdsFelt", "(IIII)I"⟩, prog_1_method_49_code, 7, some .int, (4, 95), [
  [some (.iconst 0, 0, [], []), some (.istore 5, 0, [], []), none, some (.aload_n 0, 0, [], []), some (.getfield 10, 0, [6, 0], [197]), none, none, some (.invokevirtual 152, 0, [36, 0, 4, 2, 0], [421, 33, 364, 365]), none, none, some (.iconst 1, 0, [], []), some (.istore 6, 0, [], []), none, some (.iload 6, 0, [], []), none, some (.bipush 20, 0, [], [])],
  [none, some (.if_icmp .gt 66, 0, [83], []), none, none, some (.aload_n 0, 0, [], []), some (.getfield 10, 0, [6, 0], [197]), none, none, some (.getfield 240, 0, [4, 2], [113]), none, none, some (.iload_n 1, 0, [], []), some (.aload_n 0, 0, [], []), some (.getfield 10, 0, [6, 0], [197])],
  [some (.aload_n 0, 0, [], []), some (.getfield 10, 0, [6, 0], [197]), none, none, some (.getfield 48, 0, [4, 0], [108]), none, none, some (.getfield 69, 0, [0, 0], [64]), none, none, some (.iload_n 1, 0, [], []), some (.iaload, 0, [], []), some (.iload 6, 0, [], []), none, some (.aload_n 0, 0, [], []), some (.getfield 10, 0, [6, 0], [197])],
  [none, none, some (.getfield 111, 0, [4, 6], [122]), none, none, some (.invokevirtual 243, 0, [32, 3, 4, 5, 0], [580, 33, 259, 260]), none, none, some (.iastore, 0, [], []), some (.aload_n 0, 0, [], []), some (.iload_n 2, 0, [], []), some (.iload_n 3, 0, [], []), some (.iload 4, 0, [], []), none, some (.invokevirtual 247, 0, [104, 3, 6, 7, 0], [581, 32, 583, 15])],
  [none, some (.ifCond .eq 12, 0, [77], []), none, none, some (.iload 5, 0, [], []), none, some (.iconst 1, 0, [], []), some (.iload 6, 0, [], []), none, some (.ishl, 0, [], []), some (.ior, 0, [], []), some (.istore 5, 0, [], []), none, some (.iinc 6 1, 0, [], [])],
  [some (.goto (-67), 0, [13], []), none, none, some (.iload 5, 0, [], []), none, some (.ireturn, 0, [], [])]])
def km_X6_isAsTold : kn_M := (⟨"KnotLaw", "isAsTold", "(III)Z"⟩, prog_1_method_50_code, 7, some .boolean, (3, 69), [
  [some (.aload_n 0, 0, [], []), some (.getfield 10, 0, [6, 0], [197]), none, none, some (.getfield 82, 0, [4, 3], [115]), none, none, some (.istore 4, 0, [], []), none, some (.iconst 0, 0, [], []), some (.istore 5, 0, [], []), none, some (.iload 5, 0, [], []), none, some (.iload_n 3, 0, [], []), some (.if_icmp .ge 72, 0, [87], [])],
  [none, none, some (.aload_n 0, 0, [], []), some (.getfield 10, 0, [6, 0], [197]), none, none, some (.iload 4, 0, [], []), none, some (.aload_n 0, 0, [], []), some (.getfield 36, 0, [6, 4], [201]), none, none, some (.iload_n 1, 0, [], []), some (.iload_n 2, 0, [], []), some (.iconst 2, 0, [], []), some (.iload 5, 0, [], [])],
  [none, some (.imul, 0, [], []), some (.iadd, 0, [], []), some (.invokevirtual 234, 0, [51, 2, 5, 3, 0], [571, 38, 572, 573]), none, none, some (.l2i, 0, [], []), some (.invokevirtual 155, 0, [38, 2, 4, 6, 0], [422, 33, 369, 370]), none, none, some (.istore 6, 0, [], []), none, some (.aload_n 0, 0, [], []), some (.getfield 36, 0, [6, 4], [201])],
  [some (.iload_n 1, 0, [], []), some (.iload_n 2, 0, [], []), some (.iconst 2, 0, [], []), some (.iload 5, 0, [], []), none, some (.imul, 0, [], []), some (.iadd, 0, [], []), some (.iconst 1, 0, [], []), some (.iadd, 0, [], []), some (.invokevirtual 234, 0, [51, 2, 5, 3, 0], [571, 38, 572, 573]), none, none, some (.iload 6, 0, [], []), none, some (.invokestatic 173, 0, [170, 1, 0, 1, 0], [473, 42, 474])],
  [none, some (.i2l, 0, [], []), some (.lcmp, 0, [], []), some (.ifCond .eq 5, 0, [72], []), none, none, some (.iconst 0, 0, [], []), some (.ireturn, 0, [], []), some (.iload 4, 0, [], []), none, some (.iload 6, 0, [], []), none, some (.iconst (-1), 0, [], []), some (.ixor, 0, [], []), some (.iand, 0, [], []), some (.istore 4, 0, [], [])],
  [none, some (.iinc 5 1, 0, [], []), none, none, some (.goto (-72), 0, [12], []), none, none, some (.iconst 1, 0, [], []), some (.ireturn, 0, [], [])]])
def km_X7_init : kn_M := (⟨"KnotLawModel", "<init>", "()V"⟩, prog_9_method_1_code, 2, none, (1, 20), [
  [some (.aload_n 0, 0, [], []), some (.invokespecial 1, 0, [], [635, 49]), none, none, some (.aload_n 0, 0, [], []), some (.iconst 4, 0, [], []), some (.newarray .int, 0, [], [90]), none, some (.putfield 7, 0, [7, 0, 3], [636]), none, none, some (.aload_n 0, 0, [], []), some (.iconst 4, 0, [], []), some (.newarray .int, 0, [], [90]), none, some (.putfield 13, 0, [7, 1, 3], [637])],
  [none, none, some (.aload_n 0, 0, [], []), some (.bipush 96, 0, [], []), none, some (.newarray .long, 0, [], [196]), none, some (.putfield 16, 0, [7, 2, 3], [638]), none, none, some (.aload_n 0, 0, [], []), some (.bipush 100, 0, [], []), none, some (.newarray .int, 0, [], [90]), none, some (.putfield 20, 0, [7, 4, 3], [640])],
  [none, none, some (.aload_n 0, 0, [], []), some (.bipush 79, 0, [], []), none, some (.newarray .int, 0, [], [90]), none, some (.putfield 23, 0, [7, 7, 3], [643]), none, none, some (.aload_n 0, 0, [], []), some (.bipush 79, 0, [], []), none, some (.newarray .int, 0, [], [90]), none, some (.putfield 26, 0, [7, 8, 3], [644])],
  [none, none, some (.aload_n 0, 0, [], []), some (.bipush 79, 0, [], []), none, some (.newarray .int, 0, [], [90]), none, some (.putfield 29, 0, [7, 9, 3], [645]), none, none, some (.aload_n 0, 0, [], []), some (.bipush 79, 0, [], []), none, some (.newarray .int, 0, [], [90]), none, some (.putfield 32, 0, [7, 10, 3], [646])],
  [none, none, some (.aload_n 0, 0, [], []), some (.sipush 256, 0, [], []), none, none, some (.newarray .int, 0, [], [90]), none, some (.putfield 35, 0, [7, 12, 3], [648]), none, none, some (.aload_n 0, 0, [], []), some (.sipush 256, 0, [], []), none, none, some (.newarray .boolean, 0, [], [679])],
  [none, some (.putfield 38, 0, [7, 13, 3], [649]), none, none, some (.iconst 0, 0, [], []), some (.istore_n 1, 0, [], []), some (.iload_n 1, 0, [], []), some (.iconst 4, 0, [], []), some (.if_icmp .ge 16, 0, [104], []), none, none, some (.aload_n 0, 0, [], []), some (.getfield 7, 0, [7, 0], [636]), none, none, some (.iload_n 1, 0, [], [])],
  [some (.iconst (-1), 0, [], []), some (.iastore, 0, [], []), some (.iinc 1 1, 0, [], []), none, none, some (.goto (-15), 0, [86], []), none, none, some (.aload_n 0, 0, [], []), some (.getfield 23, 0, [7, 7], [643]), none, none, some (.iconst 1, 0, [], []), some (.iconst 1, 0, [], []), some (.iastore, 0, [], []), some (.return_, 0, [], [])]])
def km_X7_in : kn_M := (⟨"KnotLawModel", "in", "(III)Z"⟩, prog_9_method_2_code, 3, some .boolean, (0, 0), [
  [some (.iload_n 0, 0, [], []), some (.iload_n 1, 0, [], []), some (.if_icmp .lt 12, 0, [14], []), none, none, some (.iload_n 0, 0, [], []), some (.iload_n 2, 0, [], []), some (.if_icmp .gt 7, 0, [14], []), none, none, some (.iconst 1, 0, [], []), some (.goto 4, 0, [15], []), none, none, some (.iconst 0, 0, [], []), some (.ireturn, 0, [], [])]])
def km_X7_has : kn_M := (⟨"KnotLawModel", "has", "(II)Z"⟩, prog_9_method_3_code, 2, some .boolean, (0, 0), [
  [some (.iload_n 0, 0, [], []), some (.iload_n 1, 0, [], []), some (.ishr, 0, [], []), some (.iconst 1, 0, [], []), some (.iand, 0, [], []), some (.iconst 1, 0, [], []), some (.if_icmp .ne 7, 0, [13], []), none, none, some (.iconst 1, 0, [], []), some (.goto 4, 0, [14], []), none, none, some (.iconst 0, 0, [], []), some (.ireturn, 0, [], [])]])
def km_X7_bits : kn_M := (⟨"KnotLawModel", "bits", "(I)I"⟩, prog_9_method_4_code, 3, some .int, (0, 0), [
  [some (.iconst 0, 0, [], []), some (.istore_n 1, 0, [], []), some (.iconst 0, 0, [], []), some (.istore_n 2, 0, [], []), some (.iload_n 2, 0, [], []), some (.bipush 8, 0, [], []), none, some (.if_icmp .ge 17, 0, [24], []), none, none, some (.iload_n 1, 0, [], []), some (.iload_n 0, 0, [], []), some (.iload_n 2, 0, [], []), some (.ishr, 0, [], []), some (.iconst 1, 0, [], []), some (.iand, 0, [], [])],
  [some (.iadd, 0, [], []), some (.istore_n 1, 0, [], []), some (.iinc 2 1, 0, [], []), none, none, some (.goto (-17), 0, [4], []), none, none, some (.iload_n 1, 0, [], []), some (.ireturn, 0, [], [])]])
def km_X7_bring : kn_M := (⟨"KnotLawModel", "bring", "([II[III)V"⟩, prog_9_method_5_code, 6, none, (0, 0), [
  [some (.iconst 0, 0, [], []), some (.istore 5, 0, [], []), none, some (.iload 5, 0, [], []), none, some (.iload 4, 0, [], []), none, some (.if_icmp .ge 21, 0, [28], []), none, none, some (.aload_n 2, 0, [], []), some (.iload_n 3, 0, [], []), some (.iload 5, 0, [], []), none, some (.iadd, 0, [], []), some (.aload_n 0, 0, [], [])],
  [some (.iload_n 1, 0, [], []), some (.iload 5, 0, [], []), none, some (.iadd, 0, [], []), some (.iaload, 0, [], []), some (.iastore, 0, [], []), some (.iinc 5 1, 0, [], []), none, none, some (.goto (-22), 0, [3], []), none, none, some (.return_, 0, [], [])]])
def km_X7_isClause : kn_M := (⟨"KnotLawModel", "isClause", "(I)Z"⟩, prog_9_method_6_code, 2, some .boolean, (1, 22), [
  [some (.iload_n 1, 0, [], []), some (.iconst 0, 0, [], []), some (.aload_n 0, 0, [], []), some (.getfield 23, 0, [7, 7], [643]), none, none, some (.iconst 5, 0, [], []), some (.iaload, 0, [], []), some (.iconst 1, 0, [], []), some (.isub, 0, [], []), some (.invokestatic 42, 0, [106, 3, 7, 3, 0], [684, 39, 685]), none, none, some (.ireturn, 0, [], [])]])
def km_X7_add : kn_M := (⟨"KnotLawModel", "add", "([IIIII)I"⟩, prog_9_method_7_code, 6, some .int, (0, 0), [
  [some (.aload_n 0, 0, [], []), some (.iconst 5, 0, [], []), some (.iaload, 0, [], []), some (.istore 5, 0, [], []), none, some (.aload_n 0, 0, [], []), some (.bipush 6, 0, [], []), none, some (.iload 5, 0, [], []), none, some (.iadd, 0, [], []), some (.iload_n 1, 0, [], []), some (.iastore, 0, [], []), some (.aload_n 0, 0, [], []), some (.bipush 14, 0, [], [])],
  [some (.iload 5, 0, [], []), none, some (.iadd, 0, [], []), some (.iload_n 2, 0, [], []), some (.iastore, 0, [], []), some (.aload_n 0, 0, [], []), some (.bipush 22, 0, [], []), none, some (.iload 5, 0, [], []), none, some (.iadd, 0, [], []), some (.iload_n 3, 0, [], []), some (.iastore, 0, [], []), some (.aload_n 0, 0, [], []), some (.bipush 30, 0, [], [])],
  [some (.iload 5, 0, [], []), none, some (.iadd, 0, [], []), some (.iload 4, 0, [], []), none, some (.iastore, 0, [], []), some (.aload_n 0, 0, [], []), some (.iconst 2, 0, [], []), some (.aload_n 0, 0, [], []), some (.iconst 2, 0, [], []), some (.iaload, 0, [], []), some (.iconst 1, 0, [], []), some (.iload 5, 0, [], []), none, some (.ishl, 0, [], []), some (.ior, 0, [], [])],
  [some (.iastore, 0, [], []), some (.aload_n 0, 0, [], []), some (.iconst 5, 0, [], []), some (.dup2, 0, [], []), some (.iaload, 0, [], []), some (.iconst 1, 0, [], []), some (.iadd, 0, [], []), some (.iastore, 0, [], []), some (.iload 5, 0, [], []), none, some (.ireturn, 0, [], [])]])
def km_X7_clause : kn_M := (⟨"KnotLawModel", "clause", "(IIII)I"⟩, prog_9_method_8_code, 5, some .int, (1, 25), [
  [some (.iload_n 1, 0, [], []), some (.iconst 0, 0, [], []), some (.iconst 4, 0, [], []), some (.invokestatic 42, 0, [106, 3, 7, 3, 0], [684, 39, 685]), none, none, some (.ifCond .eq 41, 0, [47], []), none, none, some (.iload_n 2, 0, [], []), some (.iconst 1, 0, [], []), some (.bipush 20, 0, [], []), none, some (.invokestatic 42, 0, [106, 3, 7, 3, 0], [684, 39, 685])],
  [some (.ifCond .eq 31, 0, [47], []), none, none, some (.iload_n 3, 0, [], []), some (.iconst 0, 0, [], []), some (.iconst 1, 0, [], []), some (.aload_n 0, 0, [], []), some (.getfield 23, 0, [7, 7], [643]), none, none, some (.iconst 5, 0, [], []), some (.iaload, 0, [], []), some (.ishl, 0, [], []), some (.iconst 1, 0, [], []), some (.isub, 0, [], []), some (.invokestatic 42, 0, [106, 3, 7, 3, 0], [684, 39, 685])],
  [none, none, some (.ifCond .eq 13, 0, [47], []), none, none, some (.iload 4, 0, [], []), none, some (.iconst 0, 0, [], []), some (.iconst 3, 0, [], []), some (.invokestatic 42, 0, [106, 3, 7, 3, 0], [684, 39, 685]), none, none, some (.ifCond .ne 5, 0, [49], []), none, none, some (.iconst (-1), 0, [], [])],
  [some (.ireturn, 0, [], []), some (.aload_n 0, 0, [], []), some (.getfield 23, 0, [7, 7], [643]), none, none, some (.iconst 5, 0, [], []), some (.iaload, 0, [], []), some (.bipush 8, 0, [], []), none, some (.if_icmp .ne 6, 0, [63], []), none, none, some (.bipush (-3), 0, [], []), none, some (.ireturn, 0, [], []), some (.aload_n 0, 0, [], [])],
  [some (.getfield 23, 0, [7, 7], [643]), none, none, some (.bipush 38, 0, [], []), none, some (.iconst 0, 0, [], []), some (.iastore, 0, [], []), some (.aload_n 0, 0, [], []), some (.getfield 23, 0, [7, 7], [643]), none, none, some (.iload_n 1, 0, [], []), some (.iload_n 2, 0, [], []), some (.iload_n 3, 0, [], []), some (.iload 4, 0, [], [])],
  [some (.invokestatic 46, 0, [111, 5, 7, 6, 0], [687, 39, 688]), none, none, some (.ireturn, 0, [], [])]])
def km_X7_firmBy : kn_M := (⟨"KnotLawModel", "firmBy", "([III)I"⟩, prog_9_method_9_code, 4, some .int, (0, 0), [
  [some (.aload_n 0, 0, [], []), some (.iconst 3, 0, [], []), some (.iaload, 0, [], []), some (.iconst 1, 0, [], []), some (.if_icmp .ne 9, 0, [13], []), none, none, some (.iconst 2, 0, [], []), some (.iload_n 2, 0, [], []), some (.imul, 0, [], []), some (.goto 4, 0, [14], []), none, none, some (.iload_n 2, 0, [], []), some (.istore_n 3, 0, [], []), some (.iload_n 1, 0, [], [])],
  [some (.tableswitch 55 0 3 #[32, 34, 39, 43], 32, [71, 48, 50, 55, 59], [])],
  [],
  [some (.iload_n 3, 0, [], []), some (.ireturn, 0, [], []), some (.iload_n 3, 0, [], []), some (.bipush 10, 0, [], []), none, some (.iadd, 0, [], []), some (.ireturn, 0, [], []), some (.iload_n 3, 0, [], []), some (.iconst 2, 0, [], []), some (.idiv, 0, [], []), some (.ireturn, 0, [], []), some (.iload_n 3, 0, [], []), some (.bipush 10, 0, [], []), none, some (.iadd, 0, [], []), some (.aload_n 0, 0, [], [])],
  [some (.iconst 0, 0, [], []), some (.iaload, 0, [], []), some (.bipush 10, 0, [], []), none, some (.idiv, 0, [], []), some (.iadd, 0, [], []), some (.ireturn, 0, [], []), some (.aload_n 0, 0, [], []), some (.iconst 0, 0, [], []), some (.iaload, 0, [], []), some (.bipush 7, 0, [], []), none, some (.irem, 0, [], []), some (.ifCond .ne 7, 0, [84], [])],
  [some (.iconst 0, 0, [], []), some (.goto 6, 0, [87], []), none, none, some (.iload_n 3, 0, [], []), some (.iconst 2, 0, [], []), some (.idiv, 0, [], []), some (.ireturn, 0, [], [])]])
def km_X7_firm : kn_M := (⟨"KnotLawModel", "firm", "([II)I"⟩, prog_9_method_10_code, 2, some .int, (1, 23), [
  [some (.aload_n 0, 0, [], []), some (.aload_n 0, 0, [], []), some (.bipush 6, 0, [], []), none, some (.iload_n 1, 0, [], []), some (.iadd, 0, [], []), some (.iaload, 0, [], []), some (.aload_n 0, 0, [], []), some (.bipush 14, 0, [], []), none, some (.iload_n 1, 0, [], []), some (.iadd, 0, [], []), some (.iaload, 0, [], []), some (.invokestatic 50, 0, [113, 3, 7, 4, 0], [707, 39, 708])],
  [some (.ireturn, 0, [], [])]])
def km_X7_isFree : kn_M := (⟨"KnotLawModel", "isFree", "([III)Z"⟩, prog_9_method_11_code, 3, some .boolean, (1, 21), [
  [some (.iload_n 2, 0, [], []), some (.iload_n 1, 0, [], []), some (.invokestatic 54, 0, [107, 2, 7, 2, 0], [701, 39, 702]), none, none, some (.ifCond .eq 18, 0, [23], []), none, none, some (.aload_n 0, 0, [], []), some (.bipush 22, 0, [], []), none, some (.iload_n 1, 0, [], []), some (.iadd, 0, [], []), some (.iaload, 0, [], []), some (.iload_n 2, 0, [], []), some (.iand, 0, [], [])],
  [some (.ifCond .ne 7, 0, [23], []), none, none, some (.iconst 1, 0, [], []), some (.goto 4, 0, [24], []), none, none, some (.iconst 0, 0, [], []), some (.ireturn, 0, [], [])]])
def km_X7_of : kn_M := (⟨"KnotLawModel", "of", "(II)I"⟩, prog_9_method_12_code, 3, some .int, (2, 44), [
  [some (.aload_n 0, 0, [], []), some (.iload_n 1, 0, [], []), some (.invokevirtual 58, 0, [110, 1, 7, 2, 0], [694, 39, 696, 17]), none, none, some (.ifCond .ne 5, 0, [10], []), none, none, some (.iconst (-1), 0, [], []), some (.ireturn, 0, [], []), some (.iload_n 2, 0, [], []), some (.tableswitch 124 0 6 #[41, 51, 61, 71, 81, 92, 115], 41, [135, 52, 62, 72, 82, 92, 103, 126], [])],
  [],
  [],
  [none, none, none, none, some (.aload_n 0, 0, [], []), some (.getfield 23, 0, [7, 7], [643]), none, none, some (.bipush 6, 0, [], []), none, some (.iload_n 1, 0, [], []), some (.iadd, 0, [], []), some (.iaload, 0, [], []), some (.ireturn, 0, [], []), some (.aload_n 0, 0, [], []), some (.getfield 23, 0, [7, 7], [643])],
  [none, none, some (.bipush 14, 0, [], []), none, some (.iload_n 1, 0, [], []), some (.iadd, 0, [], []), some (.iaload, 0, [], []), some (.ireturn, 0, [], []), some (.aload_n 0, 0, [], []), some (.getfield 23, 0, [7, 7], [643]), none, none, some (.bipush 22, 0, [], []), none, some (.iload_n 1, 0, [], []), some (.iadd, 0, [], [])],
  [some (.iaload, 0, [], []), some (.ireturn, 0, [], []), some (.aload_n 0, 0, [], []), some (.getfield 23, 0, [7, 7], [643]), none, none, some (.bipush 30, 0, [], []), none, some (.iload_n 1, 0, [], []), some (.iadd, 0, [], []), some (.iaload, 0, [], []), some (.ireturn, 0, [], []), some (.aload_n 0, 0, [], []), some (.getfield 23, 0, [7, 7], [643])],
  [some (.iconst 2, 0, [], []), some (.iaload, 0, [], []), some (.iload_n 1, 0, [], []), some (.ishr, 0, [], []), some (.iconst 1, 0, [], []), some (.iand, 0, [], []), some (.ireturn, 0, [], []), some (.aload_n 0, 0, [], []), some (.getfield 23, 0, [7, 7], [643]), none, none, some (.iload_n 1, 0, [], []), some (.aload_n 0, 0, [], []), some (.getfield 23, 0, [7, 7], [643])],
  [some (.iconst 2, 0, [], []), some (.iaload, 0, [], []), some (.invokestatic 62, 0, [115, 3, 7, 3, 0], [698, 39, 699]), none, none, some (.ifCond .eq 7, 0, [124], []), none, none, some (.iconst 1, 0, [], []), some (.goto 4, 0, [125], []), none, none, some (.iconst 0, 0, [], []), some (.ireturn, 0, [], []), some (.aload_n 0, 0, [], []), some (.getfield 23, 0, [7, 7], [643])],
  [none, none, some (.iload_n 1, 0, [], []), some (.invokestatic 66, 0, [114, 2, 7, 2, 0], [704, 39, 705]), none, none, some (.ireturn, 0, [], []), some (.iconst (-1), 0, [], []), some (.ireturn, 0, [], [])]])
def km_X7_owedBy : kn_M := (⟨"KnotLawModel", "owedBy", "(I)I"⟩, prog_9_method_13_code, 4, some .int, (0, 0), [
  [some (.iconst 0, 0, [], []), some (.istore_n 2, 0, [], []), some (.iconst 0, 0, [], []), some (.istore_n 3, 0, [], []), some (.iload_n 3, 0, [], []), some (.aload_n 0, 0, [], []), some (.getfield 23, 0, [7, 7], [643]), none, none, some (.iconst 5, 0, [], []), some (.iaload, 0, [], []), some (.if_icmp .ge 32, 0, [43], []), none, none, some (.iload_n 2, 0, [], []), some (.aload_n 0, 0, [], [])],
  [some (.getfield 23, 0, [7, 7], [643]), none, none, some (.bipush 30, 0, [], []), none, some (.iload_n 3, 0, [], []), some (.iadd, 0, [], []), some (.iaload, 0, [], []), some (.iload_n 1, 0, [], []), some (.if_icmp .ne 9, 0, [34], []), none, none, some (.iconst 1, 0, [], []), some (.iload_n 3, 0, [], []), some (.ishl, 0, [], []), some (.goto 4, 0, [35], [])],
  [none, none, some (.iconst 0, 0, [], []), some (.ior, 0, [], []), some (.istore_n 2, 0, [], []), some (.iinc 3 1, 0, [], []), none, none, some (.goto (-36), 0, [4], []), none, none, some (.iload_n 2, 0, [], []), some (.ireturn, 0, [], [])]])
def km_X7_party : kn_M := (⟨"KnotLawModel", "party", "(II)I"⟩, prog_9_method_14_code, 3, some .int, (1, 23), [
  [some (.iload_n 1, 0, [], []), some (.iconst 0, 0, [], []), some (.iconst 3, 0, [], []), some (.invokestatic 42, 0, [106, 3, 7, 3, 0], [684, 39, 685]), none, none, some (.ifCond .eq 12, 0, [18], []), none, none, some (.iload_n 2, 0, [], []), some (.iconst 0, 0, [], []), some (.iconst 1, 0, [], []), some (.invokestatic 42, 0, [106, 3, 7, 3, 0], [684, 39, 685]), none, none, some (.ifCond .ne 5, 0, [20], [])],
  [none, none, some (.iconst (-1), 0, [], []), some (.ireturn, 0, [], []), some (.iload_n 2, 0, [], []), some (.ifCond .ne 11, 0, [32], []), none, none, some (.aload_n 0, 0, [], []), some (.iload_n 1, 0, [], []), some (.invokevirtual 70, 0, [117, 1, 7, 4, 0], [714, 39, 716, 18]), none, none, some (.goto 23, 0, [52], [])],
  [some (.aload_n 0, 0, [], []), some (.iload_n 1, 0, [], []), some (.invokevirtual 70, 0, [117, 1, 7, 4, 0], [714, 39, 716, 18]), none, none, some (.aload_n 0, 0, [], []), some (.getfield 23, 0, [7, 7], [643]), none, none, some (.iconst 2, 0, [], []), some (.iaload, 0, [], []), some (.iand, 0, [], []), some (.ifCond .eq 7, 0, [51], []), none, none, some (.iconst 1, 0, [], [])],
  [some (.goto 4, 0, [52], []), none, none, some (.iconst 0, 0, [], []), some (.ireturn, 0, [], [])]])
def km_X7_owe : kn_M := (⟨"KnotLawModel", "owe", "(II)I"⟩, prog_9_method_15_code, 4, some .int, (2, 43), [
  [some (.aload_n 0, 0, [], []), some (.iload_n 1, 0, [], []), some (.invokevirtual 58, 0, [110, 1, 7, 2, 0], [694, 39, 696, 17]), none, none, some (.ifCond .eq 12, 0, [17], []), none, none, some (.iload_n 2, 0, [], []), some (.iconst 0, 0, [], []), some (.iconst 3, 0, [], []), some (.invokestatic 42, 0, [106, 3, 7, 3, 0], [684, 39, 685]), none, none, some (.ifCond .ne 5, 0, [19], [])],
  [none, some (.iconst (-1), 0, [], []), some (.ireturn, 0, [], []), some (.aload_n 0, 0, [], []), some (.getfield 23, 0, [7, 7], [643]), none, none, some (.bipush 30, 0, [], []), none, some (.iload_n 1, 0, [], []), some (.iadd, 0, [], []), some (.iaload, 0, [], []), some (.istore_n 3, 0, [], []), some (.aload_n 0, 0, [], []), some (.getfield 23, 0, [7, 7], [643])],
  [none, some (.bipush 30, 0, [], []), none, some (.iload_n 1, 0, [], []), some (.iadd, 0, [], []), some (.iload_n 2, 0, [], []), some (.iastore, 0, [], []), some (.iload_n 3, 0, [], []), some (.ireturn, 0, [], [])]])
def km_X7_type : kn_M := (⟨"KnotLawModel", "type", "(I)I"⟩, prog_9_method_16_code, 2, some .int, (1, 22), [
  [some (.iload_n 1, 0, [], []), some (.bipush 32, 0, [], []), none, some (.bipush 126, 0, [], []), none, some (.invokestatic 42, 0, [106, 3, 7, 3, 0], [684, 39, 685]), none, none, some (.ifCond .ne 5, 0, [13], []), none, none, some (.iconst (-1), 0, [], []), some (.ireturn, 0, [], []), some (.aload_n 0, 0, [], []), some (.getfield 74, 0, [7, 3], [639])],
  [none, some (.bipush 100, 0, [], []), none, some (.if_icmp .ne 6, 0, [25], []), none, none, some (.bipush (-3), 0, [], []), none, some (.ireturn, 0, [], []), some (.aload_n 0, 0, [], []), some (.getfield 20, 0, [7, 4], [640]), none, none, some (.aload_n 0, 0, [], []), some (.getfield 74, 0, [7, 3], [639])],
  [none, some (.iload_n 1, 0, [], []), some (.iastore, 0, [], []), some (.aload_n 0, 0, [], []), some (.dup, 0, [], []), some (.getfield 74, 0, [7, 3], [639]), none, none, some (.iconst 1, 0, [], []), some (.iadd, 0, [], []), some (.putfield 74, 0, [7, 3, 0], [639]), none, none, some (.aload_n 0, 0, [], []), some (.getfield 74, 0, [7, 3], [639])],
  [none, some (.ireturn, 0, [], [])]])
def km_X7_peek : kn_M := (⟨"KnotLawModel", "peek", "()I"⟩, prog_9_method_17_code, 1, some .int, (0, 0), [
  [some (.aload_n 0, 0, [], []), some (.getfield 78, 0, [7, 5], [641]), none, none, some (.aload_n 0, 0, [], []), some (.getfield 74, 0, [7, 3], [639]), none, none, some (.if_icmp .ge 30, 0, [38], []), none, none, some (.aload_n 0, 0, [], []), some (.getfield 20, 0, [7, 4], [640]), none, none, some (.aload_n 0, 0, [], [])],
  [some (.getfield 78, 0, [7, 5], [641]), none, none, some (.iaload, 0, [], []), some (.bipush 32, 0, [], []), none, some (.if_icmp .ne 16, 0, [38], []), none, none, some (.aload_n 0, 0, [], []), some (.dup, 0, [], []), some (.getfield 78, 0, [7, 5], [641]), none, none, some (.iconst 1, 0, [], []), some (.iadd, 0, [], [])],
  [some (.putfield 78, 0, [7, 5, 0], [641]), none, none, some (.goto (-35), 0, [0], []), none, none, some (.aload_n 0, 0, [], []), some (.getfield 78, 0, [7, 5], [641]), none, none, some (.aload_n 0, 0, [], []), some (.getfield 74, 0, [7, 3], [639]), none, none, some (.if_icmp .ge 15, 0, [61], [])],
  [none, some (.aload_n 0, 0, [], []), some (.getfield 20, 0, [7, 4], [640]), none, none, some (.aload_n 0, 0, [], []), some (.getfield 78, 0, [7, 5], [641]), none, none, some (.iaload, 0, [], []), some (.goto 4, 0, [62], []), none, none, some (.iconst 0, 0, [], []), some (.ireturn, 0, [], [])]])
def km_X7_isSign : kn_M := (⟨"KnotLawModel", "isSign", "(I)Z"⟩, prog_9_method_18_code, 2, some .boolean, (1, 20), [
  [some (.aload_n 0, 0, [], []), some (.invokevirtual 81, 0, [121, 0, 7, 1, 0], [738, 39, 740, 21]), none, none, some (.iload_n 1, 0, [], []), some (.if_icmp .eq 5, 0, [10], []), none, none, some (.iconst 0, 0, [], []), some (.ireturn, 0, [], []), some (.aload_n 0, 0, [], []), some (.dup, 0, [], []), some (.getfield 78, 0, [7, 5], [641]), none, none, some (.iconst 1, 0, [], [])],
  [some (.iadd, 0, [], []), some (.putfield 78, 0, [7, 5, 0], [641]), none, none, some (.iconst 1, 0, [], []), some (.ireturn, 0, [], [])]])
def km_X7_isDigit : kn_M := (⟨"KnotLawModel", "isDigit", "(II)Z"⟩, prog_9_method_19_code, 3, some .boolean, (1, 22), [
  [some (.aload_n 0, 0, [], []), some (.aload_n 0, 0, [], []), some (.invokevirtual 81, 0, [121, 0, 7, 1, 0], [738, 39, 740, 21]), none, none, some (.bipush 48, 0, [], []), none, some (.isub, 0, [], []), some (.putfield 85, 0, [7, 6, 0], [642]), none, none, some (.aload_n 0, 0, [], []), some (.getfield 85, 0, [7, 6], [642]), none, none, some (.iload_n 1, 0, [], [])],
  [some (.iload_n 2, 0, [], []), some (.invokestatic 42, 0, [106, 3, 7, 3, 0], [684, 39, 685]), none, none, some (.ifCond .ne 5, 0, [25], []), none, none, some (.iconst 0, 0, [], []), some (.ireturn, 0, [], []), some (.aload_n 0, 0, [], []), some (.dup, 0, [], []), some (.getfield 78, 0, [7, 5], [641]), none, none, some (.iconst 1, 0, [], []), some (.iadd, 0, [], [])],
  [some (.putfield 78, 0, [7, 5, 0], [641]), none, none, some (.iconst 1, 0, [], []), some (.ireturn, 0, [], [])]])
def km_X7_isNumber : kn_M := (⟨"KnotLawModel", "isNumber", "()Z"⟩, prog_9_method_20_code, 4, some .boolean, (2, 44), [
  [some (.aload_n 0, 0, [], []), some (.iconst 0, 0, [], []), some (.bipush 9, 0, [], []), none, some (.invokevirtual 88, 0, [123, 2, 7, 3, 0], [749, 39, 751, 23]), none, none, some (.ifCond .ne 5, 0, [12], []), none, none, some (.iconst 0, 0, [], []), some (.ireturn, 0, [], []), some (.aload_n 0, 0, [], []), some (.getfield 78, 0, [7, 5], [641])],
  [some (.iconst 1, 0, [], []), some (.isub, 0, [], []), some (.istore_n 1, 0, [], []), some (.aload_n 0, 0, [], []), some (.getfield 85, 0, [7, 6], [642]), none, none, some (.istore_n 2, 0, [], []), some (.aload_n 0, 0, [], []), some (.getfield 78, 0, [7, 5], [641]), none, none, some (.aload_n 0, 0, [], []), some (.getfield 74, 0, [7, 3], [639])],
  [some (.if_icmp .ge 50, 0, [82], []), none, none, some (.aload_n 0, 0, [], []), some (.getfield 20, 0, [7, 4], [640]), none, none, some (.aload_n 0, 0, [], []), some (.getfield 78, 0, [7, 5], [641]), none, none, some (.iaload, 0, [], []), some (.bipush 48, 0, [], []), none, some (.bipush 57, 0, [], [])],
  [some (.invokestatic 42, 0, [106, 3, 7, 3, 0], [684, 39, 685]), none, none, some (.ifCond .eq 31, 0, [82], []), none, none, some (.bipush 10, 0, [], []), none, some (.iload_n 2, 0, [], []), some (.imul, 0, [], []), some (.aload_n 0, 0, [], []), some (.getfield 20, 0, [7, 4], [640]), none, none, some (.aload_n 0, 0, [], []), some (.getfield 78, 0, [7, 5], [641])],
  [none, none, some (.iaload, 0, [], []), some (.iadd, 0, [], []), some (.bipush 48, 0, [], []), none, some (.isub, 0, [], []), some (.istore_n 2, 0, [], []), some (.aload_n 0, 0, [], []), some (.dup, 0, [], []), some (.getfield 78, 0, [7, 5], [641]), none, none, some (.iconst 1, 0, [], []), some (.iadd, 0, [], []), some (.putfield 78, 0, [7, 5, 0], [641])],
  [none, none, some (.aload_n 0, 0, [], []), some (.iload_n 2, 0, [], []), some (.putfield 85, 0, [7, 6, 0], [642]), none, none, some (.iload_n 2, 0, [], []), some (.iconst 1, 0, [], []), some (.bipush 20, 0, [], []), none, some (.invokestatic 42, 0, [106, 3, 7, 3, 0], [684, 39, 685]), none, none, some (.istore_n 3, 0, [], []), some (.aload_n 0, 0, [], [])],
  [some (.iload_n 3, 0, [], []), some (.ifCond .eq 10, 0, [107], []), none, none, some (.aload_n 0, 0, [], []), some (.getfield 78, 0, [7, 5], [641]), none, none, some (.goto 4, 0, [108], []), none, none, some (.iload_n 1, 0, [], []), some (.putfield 78, 0, [7, 5, 0], [641]), none, none, some (.iload_n 3, 0, [], [])],
  [some (.ifCond .eq 37, 0, [149], []), none, none, some (.aload_n 0, 0, [], []), some (.getfield 78, 0, [7, 5], [641]), none, none, some (.aload_n 0, 0, [], []), some (.getfield 74, 0, [7, 3], [639]), none, none, some (.if_icmp .eq 22, 0, [145], []), none, none, some (.aload_n 0, 0, [], []), some (.getfield 20, 0, [7, 4], [640])],
  [none, none, some (.aload_n 0, 0, [], []), some (.getfield 78, 0, [7, 5], [641]), none, none, some (.iaload, 0, [], []), some (.bipush 48, 0, [], []), none, some (.bipush 57, 0, [], []), none, some (.invokestatic 42, 0, [106, 3, 7, 3, 0], [684, 39, 685]), none, none, some (.ifCond .ne 7, 0, [149], [])],
  [none, some (.iconst 1, 0, [], []), some (.goto 4, 0, [150], []), none, none, some (.iconst 0, 0, [], []), some (.ireturn, 0, [], [])]])
def km_X7_kindBy : kn_M := (⟨"KnotLawModel", "kindBy", "(I)I"⟩, prog_9_method_21_code, 1, some .int, (0, 0), [
  [some (.iload_n 0, 0, [], []), some (.bipush 104, 0, [], []), none, some (.if_icmp .ne 7, 0, [10], []), none, none, some (.iconst 0, 0, [], []), some (.goto 44, 0, [51], []), none, none, some (.iload_n 0, 0, [], []), some (.bipush 115, 0, [], []), none, some (.if_icmp .ne 7, 0, [20], [])],
  [some (.iconst 1, 0, [], []), some (.goto 34, 0, [51], []), none, none, some (.iload_n 0, 0, [], []), some (.bipush 108, 0, [], []), none, some (.if_icmp .ne 7, 0, [30], []), none, none, some (.iconst 2, 0, [], []), some (.goto 24, 0, [51], []), none, none, some (.iload_n 0, 0, [], []), some (.bipush 111, 0, [], [])],
  [none, some (.if_icmp .ne 7, 0, [40], []), none, none, some (.iconst 3, 0, [], []), some (.goto 14, 0, [51], []), none, none, some (.iload_n 0, 0, [], []), some (.bipush 103, 0, [], []), none, some (.if_icmp .ne 7, 0, [50], []), none, none, some (.iconst 4, 0, [], []), some (.goto 4, 0, [51], [])],
  [none, none, some (.iconst (-1), 0, [], []), some (.ireturn, 0, [], [])]])
def km_X7_isClauseItem : kn_M := (⟨"KnotLawModel", "isClauseItem", "()Z"⟩, prog_9_method_22_code, 5, some .boolean, (3, 67), [
  [some (.aload_n 0, 0, [], []), some (.invokevirtual 81, 0, [121, 0, 7, 1, 0], [738, 39, 740, 21]), none, none, some (.invokestatic 91, 0, [125, 1, 7, 1, 0], [742, 39, 743]), none, none, some (.istore_n 1, 0, [], []), some (.iload_n 1, 0, [], []), some (.ifCond .ge 5, 0, [14], []), none, none, some (.iconst 0, 0, [], []), some (.ireturn, 0, [], []), some (.aload_n 0, 0, [], []), some (.dup, 0, [], [])],
  [some (.getfield 78, 0, [7, 5], [641]), none, none, some (.iconst 1, 0, [], []), some (.iadd, 0, [], []), some (.putfield 78, 0, [7, 5, 0], [641]), none, none, some (.aload_n 0, 0, [], []), some (.invokevirtual 94, 0, [124, 0, 7, 4, 0], [745, 39, 747, 22]), none, none, some (.ifCond .ne 5, 0, [33], []), none, none, some (.iconst 0, 0, [], [])],
  [some (.ireturn, 0, [], []), some (.aload_n 0, 0, [], []), some (.getfield 85, 0, [7, 6], [642]), none, none, some (.istore_n 2, 0, [], []), some (.iconst 0, 0, [], []), some (.istore_n 3, 0, [], []), some (.aload_n 0, 0, [], []), some (.bipush 47, 0, [], []), none, some (.invokevirtual 98, 0, [122, 1, 7, 2, 0], [753, 39, 755, 24]), none, none, some (.ifCond .eq 83, 0, [129], [])],
  [none, some (.aload_n 0, 0, [], []), some (.iconst 0, 0, [], []), some (.aload_n 0, 0, [], []), some (.getfield 29, 0, [7, 9], [645]), none, none, some (.iconst 5, 0, [], []), some (.iaload, 0, [], []), some (.iconst 1, 0, [], []), some (.isub, 0, [], []), some (.invokevirtual 88, 0, [123, 2, 7, 3, 0], [749, 39, 751, 23]), none, none, some (.ifCond .ne 5, 0, [67], [])],
  [none, some (.iconst 0, 0, [], []), some (.ireturn, 0, [], []), some (.aload_n 0, 0, [], []), some (.getfield 85, 0, [7, 6], [642]), none, none, some (.istore 4, 0, [], []), none, some (.iconst 1, 0, [], []), some (.iload 4, 0, [], []), none, some (.ishl, 0, [], []), some (.istore_n 3, 0, [], []), some (.aload_n 0, 0, [], []), some (.invokevirtual 81, 0, [121, 0, 7, 1, 0], [738, 39, 740, 21])],
  [none, none, some (.bipush 48, 0, [], []), none, some (.bipush 57, 0, [], []), none, some (.invokestatic 42, 0, [106, 3, 7, 3, 0], [684, 39, 685]), none, none, some (.ifCond .eq 40, 0, [129], []), none, none, some (.aload_n 0, 0, [], []), some (.iload 4, 0, [], []), none, some (.iconst 1, 0, [], [])],
  [some (.iadd, 0, [], []), some (.aload_n 0, 0, [], []), some (.getfield 29, 0, [7, 9], [645]), none, none, some (.iconst 5, 0, [], []), some (.iaload, 0, [], []), some (.iconst 1, 0, [], []), some (.isub, 0, [], []), some (.invokevirtual 88, 0, [123, 2, 7, 3, 0], [749, 39, 751, 23]), none, none, some (.ifCond .ne 5, 0, [113], []), none, none, some (.iconst 0, 0, [], [])],
  [some (.ireturn, 0, [], []), some (.aload_n 0, 0, [], []), some (.getfield 85, 0, [7, 6], [642]), none, none, some (.istore 4, 0, [], []), none, some (.iload_n 3, 0, [], []), some (.iconst 1, 0, [], []), some (.iload 4, 0, [], []), none, some (.ishl, 0, [], []), some (.ior, 0, [], []), some (.istore_n 3, 0, [], []), some (.goto (-48), 0, [78], [])],
  [none, some (.iconst 0, 0, [], []), some (.istore 4, 0, [], []), none, some (.aload_n 0, 0, [], []), some (.bipush 64, 0, [], []), none, some (.invokevirtual 98, 0, [122, 1, 7, 2, 0], [753, 39, 755, 24]), none, none, some (.ifCond .eq 20, 0, [158], []), none, none, some (.aload_n 0, 0, [], []), some (.iconst 0, 0, [], []), some (.iconst 3, 0, [], [])],
  [some (.invokevirtual 88, 0, [123, 2, 7, 3, 0], [749, 39, 751, 23]), none, none, some (.ifCond .ne 5, 0, [152], []), none, none, some (.iconst 0, 0, [], []), some (.ireturn, 0, [], []), some (.aload_n 0, 0, [], []), some (.getfield 85, 0, [7, 6], [642]), none, none, some (.istore 4, 0, [], []), none, some (.aload_n 0, 0, [], []), some (.getfield 29, 0, [7, 9], [645])],
  [none, none, some (.iload_n 1, 0, [], []), some (.iload_n 2, 0, [], []), some (.iload_n 3, 0, [], []), some (.iload 4, 0, [], []), none, some (.invokestatic 46, 0, [111, 5, 7, 6, 0], [687, 39, 688]), none, none, some (.pop, 0, [], []), some (.iconst 1, 0, [], []), some (.ireturn, 0, [], [])]])
def km_X7_isAgreement : kn_M := (⟨"KnotLawModel", "isAgreement", "()Z"⟩, prog_9_method_23_code, 2, some .boolean, (4, 91), [
  [some (.iconst 1, 0, [], []), some (.istore_n 1, 0, [], []), some (.iload_n 1, 0, [], []), some (.ifCond .eq 41, 0, [44], []), none, none, some (.aload_n 0, 0, [], []), some (.invokevirtual 101, 0, [126, 0, 7, 5, 0], [734, 39, 736, 20]), none, none, some (.ifCond .ne 5, 0, [15], []), none, none, some (.iconst 0, 0, [], []), some (.ireturn, 0, [], []), some (.aload_n 0, 0, [], [])],
  [some (.getfield 29, 0, [7, 9], [645]), none, none, some (.iconst 5, 0, [], []), some (.iaload, 0, [], []), some (.bipush 8, 0, [], []), none, some (.if_icmp .ge 16, 0, [39], []), none, none, some (.aload_n 0, 0, [], []), some (.bipush 44, 0, [], []), none, some (.invokevirtual 98, 0, [122, 1, 7, 2, 0], [753, 39, 755, 24])],
  [some (.ifCond .eq 7, 0, [39], []), none, none, some (.iconst 1, 0, [], []), some (.goto 4, 0, [40], []), none, none, some (.iconst 0, 0, [], []), some (.istore_n 1, 0, [], []), some (.goto (-39), 0, [2], []), none, none, some (.aload_n 0, 0, [], []), some (.invokevirtual 81, 0, [121, 0, 7, 1, 0], [738, 39, 740, 21])],
  [some (.ifCond .ne 7, 0, [55], []), none, none, some (.iconst 1, 0, [], []), some (.goto 4, 0, [56], []), none, none, some (.iconst 0, 0, [], []), some (.ireturn, 0, [], [])]])
def km_X7_agreement : kn_M := (⟨"KnotLawModel", "agreement", "()I"⟩, prog_9_method_24_code, 2, some .int, (5, 112), [
  [some (.iconst 0, 0, [], []), some (.istore_n 1, 0, [], []), some (.iload_n 1, 0, [], []), some (.bipush 79, 0, [], []), none, some (.if_icmp .ge 16, 0, [21], []), none, none, some (.aload_n 0, 0, [], []), some (.getfield 29, 0, [7, 9], [645]), none, none, some (.iload_n 1, 0, [], []), some (.iconst 0, 0, [], []), some (.iastore, 0, [], []), some (.iinc 1 1, 0, [], [])],
  [none, none, some (.goto (-16), 0, [2], []), none, none, some (.aload_n 0, 0, [], []), some (.getfield 29, 0, [7, 9], [645]), none, none, some (.iconst 1, 0, [], []), some (.aload_n 0, 0, [], []), some (.getfield 23, 0, [7, 7], [643]), none, none, some (.iconst 1, 0, [], []), some (.iaload, 0, [], [])],
  [some (.iastore, 0, [], []), some (.aload_n 0, 0, [], []), some (.iconst 0, 0, [], []), some (.putfield 78, 0, [7, 5, 0], [641]), none, none, some (.aload_n 0, 0, [], []), some (.invokevirtual 104, 0, [127, 0, 7, 2, 0], [730, 39, 732, 19]), none, none, some (.istore_n 1, 0, [], []), some (.aload_n 0, 0, [], []), some (.iconst 0, 0, [], []), some (.putfield 74, 0, [7, 3, 0], [639])],
  [some (.iload_n 1, 0, [], []), some (.ifCond .ne 11, 0, [60], []), none, none, some (.bipush (-20), 0, [], []), none, some (.aload_n 0, 0, [], []), some (.getfield 78, 0, [7, 5], [641]), none, none, some (.isub, 0, [], []), some (.ireturn, 0, [], []), some (.aload_n 0, 0, [], []), some (.getfield 29, 0, [7, 9], [645])],
  [some (.iconst 0, 0, [], []), some (.aload_n 0, 0, [], []), some (.getfield 23, 0, [7, 7], [643]), none, none, some (.iconst 0, 0, [], []), some (.bipush 79, 0, [], []), none, some (.invokestatic 107, 0, [109, 5, 7, 6, 0], [757, 39, 758]), none, none, some (.aload_n 0, 0, [], []), some (.getfield 23, 0, [7, 7], [643]), none, none, some (.iconst 5, 0, [], [])],
  [some (.iaload, 0, [], []), some (.ireturn, 0, [], [])]])
def km_X7_freeIn : kn_M := (⟨"KnotLawModel", "freeIn", "([I)I"⟩, prog_9_method_25_code, 3, some .int, (2, 43), [
  [some (.iconst 0, 0, [], []), some (.istore_n 1, 0, [], []), some (.iconst 0, 0, [], []), some (.istore_n 2, 0, [], []), some (.iload_n 2, 0, [], []), some (.aload_n 0, 0, [], []), some (.iconst 5, 0, [], []), some (.iaload, 0, [], []), some (.if_icmp .ge 30, 0, [38], []), none, none, some (.iload_n 1, 0, [], []), some (.aload_n 0, 0, [], []), some (.iload_n 2, 0, [], []), some (.aload_n 0, 0, [], []), some (.iconst 2, 0, [], [])],
  [some (.iaload, 0, [], []), some (.invokestatic 62, 0, [115, 3, 7, 3, 0], [698, 39, 699]), none, none, some (.ifCond .eq 9, 0, [29], []), none, none, some (.iconst 1, 0, [], []), some (.iload_n 2, 0, [], []), some (.ishl, 0, [], []), some (.goto 4, 0, [30], []), none, none, some (.iconst 0, 0, [], []), some (.ior, 0, [], []), some (.istore_n 1, 0, [], [])],
  [some (.iinc 2 1, 0, [], []), none, none, some (.goto (-31), 0, [4], []), none, none, some (.iload_n 1, 0, [], []), some (.ireturn, 0, [], [])]])
def km_X7_boundOnes : kn_M := (⟨"KnotLawModel", "boundOnes", "()I"⟩, prog_9_method_26_code, 3, some .int, (1, 21), [
  [some (.iconst 0, 0, [], []), some (.istore_n 1, 0, [], []), some (.iconst 0, 0, [], []), some (.istore_n 2, 0, [], []), some (.iload_n 2, 0, [], []), some (.aload_n 0, 0, [], []), some (.getfield 23, 0, [7, 7], [643]), none, none, some (.iconst 5, 0, [], []), some (.iaload, 0, [], []), some (.if_icmp .ge 40, 0, [51], []), none, none, some (.iload_n 1, 0, [], []), some (.aload_n 0, 0, [], [])],
  [some (.getfield 23, 0, [7, 7], [643]), none, none, some (.iconst 2, 0, [], []), some (.iaload, 0, [], []), some (.iload_n 2, 0, [], []), some (.invokestatic 54, 0, [107, 2, 7, 2, 0], [701, 39, 702]), none, none, some (.ifCond .eq 17, 0, [42], []), none, none, some (.iconst 1, 0, [], []), some (.aload_n 0, 0, [], []), some (.getfield 23, 0, [7, 7], [643])],
  [none, some (.bipush 30, 0, [], []), none, some (.iload_n 2, 0, [], []), some (.iadd, 0, [], []), some (.iaload, 0, [], []), some (.ishl, 0, [], []), some (.goto 4, 0, [43], []), none, none, some (.iconst 0, 0, [], []), some (.ior, 0, [], []), some (.istore_n 1, 0, [], []), some (.iinc 2 1, 0, [], [])],
  [some (.goto (-44), 0, [4], []), none, none, some (.iload_n 1, 0, [], []), some (.ireturn, 0, [], [])]])
def km_X7_count : kn_M := (⟨"KnotLawModel", "count", "(I)I"⟩, prog_9_method_27_code, 2, some .int, (3, 65), [
  [some (.iload_n 1, 0, [], []), some (.tableswitch 103 0 7 #[47, 54, 61, 68, 75, 83, 88, 95], 47, [104, 48, 55, 62, 69, 76, 84, 89, 96], [])],
  [],
  [],
  [some (.aload_n 0, 0, [], []), some (.getfield 23, 0, [7, 7], [643]), none, none, some (.iconst 5, 0, [], []), some (.iaload, 0, [], []), some (.ireturn, 0, [], []), some (.aload_n 0, 0, [], []), some (.getfield 23, 0, [7, 7], [643]), none, none, some (.iconst 0, 0, [], []), some (.iaload, 0, [], []), some (.ireturn, 0, [], []), some (.aload_n 0, 0, [], []), some (.getfield 23, 0, [7, 7], [643])],
  [none, none, some (.iconst 3, 0, [], []), some (.iaload, 0, [], []), some (.ireturn, 0, [], []), some (.aload_n 0, 0, [], []), some (.getfield 23, 0, [7, 7], [643]), none, none, some (.iconst 2, 0, [], []), some (.iaload, 0, [], []), some (.ireturn, 0, [], []), some (.aload_n 0, 0, [], []), some (.getfield 23, 0, [7, 7], [643])],
  [some (.invokestatic 111, 0, [129, 1, 7, 3, 0], [764, 39, 765]), none, none, some (.ireturn, 0, [], []), some (.aload_n 0, 0, [], []), some (.invokevirtual 115, 0, [130, 0, 7, 3, 0], [767, 39, 769, 25]), none, none, some (.ireturn, 0, [], []), some (.aload_n 0, 0, [], []), some (.getfield 23, 0, [7, 7], [643]), none, none, some (.iconst 4, 0, [], []), some (.iaload, 0, [], []), some (.ireturn, 0, [], [])],
  [some (.aload_n 0, 0, [], []), some (.getfield 23, 0, [7, 7], [643]), none, none, some (.bipush 38, 0, [], []), none, some (.iaload, 0, [], []), some (.ireturn, 0, [], []), some (.iconst (-1), 0, [], []), some (.ireturn, 0, [], [])]])
def km_X7_note : kn_M := (⟨"KnotLawModel", "note", "()V"⟩, prog_9_method_28_code, 1, none, (1, 25), [
  [some (.aload_n 0, 0, [], []), some (.getfield 23, 0, [7, 7], [643]), none, none, some (.bipush 38, 0, [], []), none, some (.iaload, 0, [], []), some (.bipush 8, 0, [], []), none, some (.if_icmp .ne 31, 0, [40], []), none, none, some (.aload_n 0, 0, [], []), some (.getfield 23, 0, [7, 7], [643])],
  [some (.bipush 44, 0, [], []), none, some (.aload_n 0, 0, [], []), some (.getfield 23, 0, [7, 7], [643]), none, none, some (.bipush 39, 0, [], []), none, some (.bipush 35, 0, [], []), none, some (.invokestatic 107, 0, [109, 5, 7, 6, 0], [757, 39, 758]), none, none, some (.aload_n 0, 0, [], []), some (.getfield 23, 0, [7, 7], [643])],
  [none, some (.bipush 38, 0, [], []), none, some (.dup2, 0, [], []), some (.iaload, 0, [], []), some (.iconst 1, 0, [], []), some (.isub, 0, [], []), some (.iastore, 0, [], []), some (.aload_n 0, 0, [], []), some (.getfield 23, 0, [7, 7], [643]), none, none, some (.iconst 0, 0, [], []), some (.aload_n 0, 0, [], []), some (.getfield 23, 0, [7, 7], [643])],
  [none, some (.bipush 39, 0, [], []), none, some (.iconst 5, 0, [], []), some (.aload_n 0, 0, [], []), some (.getfield 23, 0, [7, 7], [643]), none, none, some (.bipush 38, 0, [], []), none, some (.iaload, 0, [], []), some (.imul, 0, [], []), some (.iadd, 0, [], []), some (.iconst 5, 0, [], []), some (.invokestatic 107, 0, [109, 5, 7, 6, 0], [757, 39, 758])],
  [none, some (.aload_n 0, 0, [], []), some (.getfield 23, 0, [7, 7], [643]), none, none, some (.bipush 38, 0, [], []), none, some (.dup2, 0, [], []), some (.iaload, 0, [], []), some (.iconst 1, 0, [], []), some (.iadd, 0, [], []), some (.iastore, 0, [], []), some (.return_, 0, [], [])]])
def km_X7_fallsIn : kn_M := (⟨"KnotLawModel", "fallsIn", "([II)I"⟩, prog_9_method_29_code, 4, some .int, (2, 44), [
  [some (.iconst 0, 0, [], []), some (.istore_n 2, 0, [], []), some (.iconst 0, 0, [], []), some (.istore_n 3, 0, [], []), some (.iload_n 3, 0, [], []), some (.aload_n 0, 0, [], []), some (.iconst 5, 0, [], []), some (.iaload, 0, [], []), some (.if_icmp .ge 39, 0, [47], []), none, none, some (.iload_n 2, 0, [], []), some (.aload_n 0, 0, [], []), some (.iload_n 3, 0, [], []), some (.aload_n 0, 0, [], []), some (.iconst 2, 0, [], [])],
  [some (.iaload, 0, [], []), some (.invokestatic 62, 0, [115, 3, 7, 3, 0], [698, 39, 699]), none, none, some (.ifCond .eq 18, 0, [38], []), none, none, some (.aload_n 0, 0, [], []), some (.iload_n 3, 0, [], []), some (.invokestatic 66, 0, [114, 2, 7, 2, 0], [704, 39, 705]), none, none, some (.iload_n 1, 0, [], []), some (.if_icmp .gt 9, 0, [38], [])],
  [some (.iconst 1, 0, [], []), some (.iload_n 3, 0, [], []), some (.ishl, 0, [], []), some (.goto 4, 0, [39], []), none, none, some (.iconst 0, 0, [], []), some (.ior, 0, [], []), some (.istore_n 2, 0, [], []), some (.iinc 3 1, 0, [], []), none, none, some (.goto (-40), 0, [4], []), none, none, some (.iload_n 2, 0, [], [])],
  [some (.ireturn, 0, [], [])]])
def km_X7_pullIn : kn_M := (⟨"KnotLawModel", "pullIn", "([II)I"⟩, prog_9_method_30_code, 3, some .int, (3, 67), [
  [some (.aload_n 0, 0, [], []), some (.iload_n 1, 0, [], []), some (.invokestatic 118, 0, [133, 2, 7, 4, 0], [782, 39, 783]), none, none, some (.istore_n 2, 0, [], []), some (.aload_n 0, 0, [], []), some (.iconst 2, 0, [], []), some (.aload_n 0, 0, [], []), some (.iconst 2, 0, [], []), some (.iaload, 0, [], []), some (.iload_n 2, 0, [], []), some (.iconst (-1), 0, [], []), some (.ixor, 0, [], []), some (.iand, 0, [], []), some (.iastore, 0, [], [])],
  [some (.iload_n 2, 0, [], []), some (.ireturn, 0, [], [])]])
def km_X7_pull : kn_M := (⟨"KnotLawModel", "pull", "(I)I"⟩, prog_9_method_31_code, 2, some .int, (4, 89), [
  [some (.iload_n 1, 0, [], []), some (.iconst 0, 0, [], []), some (.bipush 99, 0, [], []), none, some (.invokestatic 42, 0, [106, 3, 7, 3, 0], [684, 39, 685]), none, none, some (.ifCond .ne 5, 0, [12], []), none, none, some (.iconst (-1), 0, [], []), some (.ireturn, 0, [], []), some (.aload_n 0, 0, [], []), some (.invokevirtual 121, 0, [132, 0, 7, 1, 0], [775, 39, 777, 26])],
  [some (.aload_n 0, 0, [], []), some (.getfield 23, 0, [7, 7], [643]), none, none, some (.iload_n 1, 0, [], []), some (.invokestatic 124, 0, [134, 2, 7, 3, 0], [779, 39, 780]), none, none, some (.ireturn, 0, [], [])]])
def km_X7_cut : kn_M := (⟨"KnotLawModel", "cut", "(I)I"⟩, prog_9_method_32_code, 2, some .int, (2, 45), [
  [some (.aload_n 0, 0, [], []), some (.iload_n 1, 0, [], []), some (.invokevirtual 58, 0, [110, 1, 7, 2, 0], [694, 39, 696, 17]), none, none, some (.ifCond .ne 5, 0, [10], []), none, none, some (.iconst (-1), 0, [], []), some (.ireturn, 0, [], []), some (.aload_n 0, 0, [], []), some (.getfield 23, 0, [7, 7], [643]), none, none, some (.iconst 2, 0, [], []), some (.iaload, 0, [], [])],
  [some (.iload_n 1, 0, [], []), some (.invokestatic 54, 0, [107, 2, 7, 2, 0], [701, 39, 702]), none, none, some (.ifCond .ne 6, 0, [26], []), none, none, some (.bipush (-2), 0, [], []), none, some (.ireturn, 0, [], []), some (.aload_n 0, 0, [], []), some (.invokevirtual 121, 0, [132, 0, 7, 1, 0], [775, 39, 777, 26]), none, none, some (.aload_n 0, 0, [], []), some (.getfield 23, 0, [7, 7], [643])],
  [none, none, some (.iconst 2, 0, [], []), some (.aload_n 0, 0, [], []), some (.getfield 23, 0, [7, 7], [643]), none, none, some (.iconst 2, 0, [], []), some (.iaload, 0, [], []), some (.iconst 1, 0, [], []), some (.iload_n 1, 0, [], []), some (.ishl, 0, [], []), some (.iconst (-1), 0, [], []), some (.ixor, 0, [], []), some (.iand, 0, [], []), some (.iastore, 0, [], [])],
  [some (.aload_n 0, 0, [], []), some (.getfield 23, 0, [7, 7], [643]), none, none, some (.iconst 4, 0, [], []), some (.dup2, 0, [], []), some (.iaload, 0, [], []), some (.iconst 1, 0, [], []), some (.iadd, 0, [], []), some (.iastore, 0, [], []), some (.aload_n 0, 0, [], []), some (.getfield 23, 0, [7, 7], [643]), none, none, some (.iconst 2, 0, [], []), some (.iaload, 0, [], [])],
  [some (.ireturn, 0, [], [])]])
def km_X7_tie : kn_M := (⟨"KnotLawModel", "tie", "(I)I"⟩, prog_9_method_33_code, 2, some .int, (2, 45), [
  [some (.aload_n 0, 0, [], []), some (.iload_n 1, 0, [], []), some (.invokevirtual 58, 0, [110, 1, 7, 2, 0], [694, 39, 696, 17]), none, none, some (.ifCond .ne 5, 0, [10], []), none, none, some (.iconst (-1), 0, [], []), some (.ireturn, 0, [], []), some (.aload_n 0, 0, [], []), some (.getfield 23, 0, [7, 7], [643]), none, none, some (.iconst 2, 0, [], []), some (.iaload, 0, [], [])],
  [some (.iload_n 1, 0, [], []), some (.invokestatic 54, 0, [107, 2, 7, 2, 0], [701, 39, 702]), none, none, some (.ifCond .eq 6, 0, [26], []), none, none, some (.bipush (-2), 0, [], []), none, some (.ireturn, 0, [], []), some (.aload_n 0, 0, [], []), some (.invokevirtual 121, 0, [132, 0, 7, 1, 0], [775, 39, 777, 26]), none, none, some (.aload_n 0, 0, [], []), some (.getfield 23, 0, [7, 7], [643])],
  [none, none, some (.iconst 2, 0, [], []), some (.aload_n 0, 0, [], []), some (.getfield 23, 0, [7, 7], [643]), none, none, some (.iconst 2, 0, [], []), some (.iaload, 0, [], []), some (.iconst 1, 0, [], []), some (.iload_n 1, 0, [], []), some (.ishl, 0, [], []), some (.ior, 0, [], []), some (.iastore, 0, [], []), some (.aload_n 0, 0, [], []), some (.getfield 23, 0, [7, 7], [643])],
  [none, none, some (.iconst 2, 0, [], []), some (.iaload, 0, [], []), some (.ireturn, 0, [], [])]])
def km_X7_wet : kn_M := (⟨"KnotLawModel", "wet", "(I)I"⟩, prog_9_method_34_code, 4, some .int, (2, 45), [
  [some (.iload_n 1, 0, [], []), some (.iconst 0, 0, [], []), some (.iconst 1, 0, [], []), some (.invokestatic 42, 0, [106, 3, 7, 3, 0], [684, 39, 685]), none, none, some (.ifCond .ne 5, 0, [11], []), none, none, some (.iconst (-1), 0, [], []), some (.ireturn, 0, [], []), some (.aload_n 0, 0, [], []), some (.getfield 23, 0, [7, 7], [643]), none, none, some (.iconst 3, 0, [], [])],
  [some (.iaload, 0, [], []), some (.iload_n 1, 0, [], []), some (.if_icmp .ne 6, 0, [24], []), none, none, some (.bipush (-2), 0, [], []), none, some (.ireturn, 0, [], []), some (.aload_n 0, 0, [], []), some (.invokevirtual 121, 0, [132, 0, 7, 1, 0], [775, 39, 777, 26]), none, none, some (.aload_n 0, 0, [], []), some (.getfield 23, 0, [7, 7], [643])],
  [some (.iconst 3, 0, [], []), some (.iload_n 1, 0, [], []), some (.iastore, 0, [], []), some (.iconst 0, 0, [], []), some (.istore_n 2, 0, [], []), some (.iconst 0, 0, [], []), some (.istore_n 3, 0, [], []), some (.iload_n 3, 0, [], []), some (.aload_n 0, 0, [], []), some (.getfield 23, 0, [7, 7], [643]), none, none, some (.iconst 5, 0, [], []), some (.iaload, 0, [], []), some (.if_icmp .ge 37, 0, [83], [])],
  [none, some (.iload_n 2, 0, [], []), some (.aload_n 0, 0, [], []), some (.getfield 23, 0, [7, 7], [643]), none, none, some (.iconst 2, 0, [], []), some (.iaload, 0, [], []), some (.iload_n 3, 0, [], []), some (.invokestatic 54, 0, [107, 2, 7, 2, 0], [701, 39, 702]), none, none, some (.ifCond .eq 14, 0, [74], []), none, none, some (.aload_n 0, 0, [], [])],
  [some (.getfield 23, 0, [7, 7], [643]), none, none, some (.iload_n 3, 0, [], []), some (.invokestatic 66, 0, [114, 2, 7, 2, 0], [704, 39, 705]), none, none, some (.goto 4, 0, [75], []), none, none, some (.iconst 0, 0, [], []), some (.iadd, 0, [], []), some (.istore_n 2, 0, [], []), some (.iinc 3 1, 0, [], [])],
  [some (.goto (-41), 0, [39], []), none, none, some (.iload_n 2, 0, [], []), some (.ireturn, 0, [], [])]])
def km_X7_days : kn_M := (⟨"KnotLawModel", "days", "(I)I"⟩, prog_9_method_35_code, 2, some .int, (2, 45), [
  [some (.iload_n 1, 0, [], []), some (.iconst 1, 0, [], []), some (.bipush 99, 0, [], []), none, some (.invokestatic 42, 0, [106, 3, 7, 3, 0], [684, 39, 685]), none, none, some (.ifCond .ne 5, 0, [12], []), none, none, some (.iconst (-1), 0, [], []), some (.ireturn, 0, [], []), some (.aload_n 0, 0, [], []), some (.getfield 23, 0, [7, 7], [643])],
  [some (.iconst 0, 0, [], []), some (.iaload, 0, [], []), some (.iload_n 1, 0, [], []), some (.iadd, 0, [], []), some (.sipush 9999, 0, [], []), none, none, some (.if_icmp .le 6, 0, [29], []), none, none, some (.bipush (-3), 0, [], []), none, some (.ireturn, 0, [], []), some (.aload_n 0, 0, [], []), some (.invokevirtual 121, 0, [132, 0, 7, 1, 0], [775, 39, 777, 26])],
  [none, some (.aload_n 0, 0, [], []), some (.getfield 23, 0, [7, 7], [643]), none, none, some (.iconst 0, 0, [], []), some (.dup2, 0, [], []), some (.iaload, 0, [], []), some (.iload_n 1, 0, [], []), some (.iadd, 0, [], []), some (.iastore, 0, [], []), some (.aload_n 0, 0, [], []), some (.getfield 23, 0, [7, 7], [643]), none, none, some (.iconst 0, 0, [], [])],
  [some (.iaload, 0, [], []), some (.ireturn, 0, [], [])]])
def km_X7_drift : kn_M := (⟨"KnotLawModel", "drift", "(I)I"⟩, prog_9_method_36_code, 3, some .int, (4, 89), [
  [some (.iload_n 1, 0, [], []), some (.iconst 1, 0, [], []), some (.bipush 40, 0, [], []), none, some (.invokestatic 42, 0, [106, 3, 7, 3, 0], [684, 39, 685]), none, none, some (.ifCond .ne 5, 0, [12], []), none, none, some (.iconst (-1), 0, [], []), some (.ireturn, 0, [], []), some (.aload_n 0, 0, [], []), some (.getfield 23, 0, [7, 7], [643])],
  [some (.iconst 0, 0, [], []), some (.iaload, 0, [], []), some (.iload_n 1, 0, [], []), some (.iadd, 0, [], []), some (.sipush 9999, 0, [], []), none, none, some (.if_icmp .le 6, 0, [29], []), none, none, some (.bipush (-3), 0, [], []), none, some (.ireturn, 0, [], []), some (.iconst 0, 0, [], []), some (.istore_n 2, 0, [], []), some (.iload_n 2, 0, [], [])],
  [some (.iload_n 1, 0, [], []), some (.if_icmp .ge 95, 0, [128], []), none, none, some (.aload_n 0, 0, [], []), some (.invokevirtual 121, 0, [132, 0, 7, 1, 0], [775, 39, 777, 26]), none, none, some (.aload_n 0, 0, [], []), some (.getfield 23, 0, [7, 7], [643]), none, none, some (.iconst 1, 0, [], []), some (.aload_n 0, 0, [], []), some (.getfield 23, 0, [7, 7], [643])],
  [none, some (.iconst 1, 0, [], []), some (.iaload, 0, [], []), some (.i2l, 0, [], []), some (.ldc2_w 127, 0, [1103515245], [805]), none, none, some (.lmul, 0, [], []), some (.ldc2_w 129, 0, [12345], [806]), none, none, some (.ladd, 0, [], []), some (.ldc2_w 131, 0, [2147483648], [807]), none, none, some (.lrem, 0, [], [])],
  [some (.l2i, 0, [], []), some (.iastore, 0, [], []), some (.aload_n 0, 0, [], []), some (.getfield 23, 0, [7, 7], [643]), none, none, some (.iconst 3, 0, [], []), some (.aload_n 0, 0, [], []), some (.getfield 23, 0, [7, 7], [643]), none, none, some (.iconst 1, 0, [], []), some (.iaload, 0, [], []), some (.ldc 133, 0, [65536], [808]), none, some (.idiv, 0, [], [])],
  [some (.iconst 3, 0, [], []), some (.irem, 0, [], []), some (.ifCond .ne 7, 0, [89], []), none, none, some (.iconst 1, 0, [], []), some (.goto 4, 0, [90], []), none, none, some (.iconst 0, 0, [], []), some (.iastore, 0, [], []), some (.aload_n 0, 0, [], []), some (.getfield 23, 0, [7, 7], [643]), none, none, some (.aload_n 0, 0, [], [])],
  [some (.getfield 23, 0, [7, 7], [643]), none, none, some (.iconst 1, 0, [], []), some (.iaload, 0, [], []), some (.sipush 128, 0, [], []), none, none, some (.idiv, 0, [], []), some (.bipush 30, 0, [], []), none, some (.irem, 0, [], []), some (.invokestatic 124, 0, [134, 2, 7, 3, 0], [779, 39, 780]), none, none, some (.pop, 0, [], [])],
  [some (.aload_n 0, 0, [], []), some (.getfield 23, 0, [7, 7], [643]), none, none, some (.iconst 0, 0, [], []), some (.dup2, 0, [], []), some (.iaload, 0, [], []), some (.iconst 1, 0, [], []), some (.iadd, 0, [], []), some (.iastore, 0, [], []), some (.iinc 2 1, 0, [], []), none, none, some (.goto (-94), 0, [31], [])],
  [some (.aload_n 0, 0, [], []), some (.getfield 23, 0, [7, 7], [643]), none, none, some (.iconst 2, 0, [], []), some (.iaload, 0, [], []), some (.ireturn, 0, [], [])]])
def km_X7_undo : kn_M := (⟨"KnotLawModel", "undo", "()I"⟩, prog_9_method_37_code, 1, some .int, (1, 25), [
  [some (.aload_n 0, 0, [], []), some (.getfield 23, 0, [7, 7], [643]), none, none, some (.bipush 38, 0, [], []), none, some (.iaload, 0, [], []), some (.ifCond .ne 6, 0, [13], []), none, none, some (.bipush (-4), 0, [], []), none, some (.ireturn, 0, [], []), some (.aload_n 0, 0, [], []), some (.getfield 23, 0, [7, 7], [643])],
  [none, some (.bipush 38, 0, [], []), none, some (.dup2, 0, [], []), some (.iaload, 0, [], []), some (.iconst 1, 0, [], []), some (.isub, 0, [], []), some (.iastore, 0, [], []), some (.aload_n 0, 0, [], []), some (.getfield 23, 0, [7, 7], [643]), none, none, some (.bipush 39, 0, [], []), none, some (.iconst 5, 0, [], []), some (.aload_n 0, 0, [], [])],
  [some (.getfield 23, 0, [7, 7], [643]), none, none, some (.bipush 38, 0, [], []), none, some (.iaload, 0, [], []), some (.imul, 0, [], []), some (.iadd, 0, [], []), some (.aload_n 0, 0, [], []), some (.getfield 23, 0, [7, 7], [643]), none, none, some (.iconst 0, 0, [], []), some (.iconst 5, 0, [], []), some (.invokestatic 107, 0, [109, 5, 7, 6, 0], [757, 39, 758])],
  [none, some (.aload_n 0, 0, [], []), some (.getfield 23, 0, [7, 7], [643]), none, none, some (.bipush 38, 0, [], []), none, some (.iaload, 0, [], []), some (.ireturn, 0, [], [])]])
def km_X7_seed : kn_M := (⟨"KnotLawModel", "seed", "(I)I"⟩, prog_9_method_38_code, 3, some .int, (0, 0), [
  [some (.iload_n 1, 0, [], []), some (.ifCond .ge 5, 0, [6], []), none, none, some (.iconst (-1), 0, [], []), some (.ireturn, 0, [], []), some (.aload_n 0, 0, [], []), some (.getfield 23, 0, [7, 7], [643]), none, none, some (.iconst 1, 0, [], []), some (.iaload, 0, [], []), some (.istore_n 2, 0, [], []), some (.aload_n 0, 0, [], []), some (.getfield 23, 0, [7, 7], [643])],
  [none, some (.iconst 1, 0, [], []), some (.iload_n 1, 0, [], []), some (.iastore, 0, [], []), some (.iload_n 2, 0, [], []), some (.ireturn, 0, [], [])]])
def km_X7_begin : kn_M := (⟨"KnotLawModel", "begin", "()V"⟩, prog_9_method_39_code, 1, none, (1, 25), [
  [some (.aload_n 0, 0, [], []), some (.getfield 23, 0, [7, 7], [643]), none, none, some (.iconst 0, 0, [], []), some (.aload_n 0, 0, [], []), some (.getfield 26, 0, [7, 8], [644]), none, none, some (.iconst 0, 0, [], []), some (.bipush 79, 0, [], []), none, some (.invokestatic 107, 0, [109, 5, 7, 6, 0], [757, 39, 758]), none, none, some (.return_, 0, [], [])]])
def km_X7_falls : kn_M := (⟨"KnotLawModel", "falls", "(I)I"⟩, prog_9_method_40_code, 2, some .int, (3, 67), [
  [some (.iload_n 1, 0, [], []), some (.iconst 0, 0, [], []), some (.bipush 99, 0, [], []), none, some (.invokestatic 42, 0, [106, 3, 7, 3, 0], [684, 39, 685]), none, none, some (.ifCond .eq 14, 0, [21], []), none, none, some (.aload_n 0, 0, [], []), some (.getfield 23, 0, [7, 7], [643]), none, none, some (.iload_n 1, 0, [], []), some (.invokestatic 118, 0, [133, 2, 7, 4, 0], [782, 39, 783])],
  [none, none, some (.goto 4, 0, [22], []), none, none, some (.iconst (-1), 0, [], []), some (.ireturn, 0, [], [])]])
def km_X7_pulls : kn_M := (⟨"KnotLawModel", "pulls", "(II)I"⟩, prog_9_method_41_code, 4, some .int, (4, 89), [
  [some (.aload_n 0, 0, [], []), some (.iload_n 1, 0, [], []), some (.invokevirtual 58, 0, [110, 1, 7, 2, 0], [694, 39, 696, 17]), none, none, some (.ifCond .eq 13, 0, [18], []), none, none, some (.iload_n 2, 0, [], []), some (.iconst 0, 0, [], []), some (.bipush 99, 0, [], []), none, some (.invokestatic 42, 0, [106, 3, 7, 3, 0], [684, 39, 685]), none, none, some (.ifCond .ne 5, 0, [20], [])],
  [none, none, some (.iconst (-1), 0, [], []), some (.ireturn, 0, [], []), some (.aload_n 0, 0, [], []), some (.invokevirtual 134, 0, [143, 0, 7, 1, 0], [825, 39, 827, 27]), none, none, some (.iconst 0, 0, [], []), some (.istore_n 3, 0, [], []), some (.iload_n 3, 0, [], []), some (.bipush 20, 0, [], []), none, some (.if_icmp .gt 33, 0, [62], [])],
  [some (.aload_n 0, 0, [], []), some (.getfield 26, 0, [7, 8], [644]), none, none, some (.iconst 2, 0, [], []), some (.iaload, 0, [], []), some (.iload_n 1, 0, [], []), some (.invokestatic 54, 0, [107, 2, 7, 2, 0], [701, 39, 702]), none, none, some (.ifCond .ne 5, 0, [47], []), none, none, some (.iload_n 3, 0, [], []), some (.ireturn, 0, [], []), some (.aload_n 0, 0, [], [])],
  [some (.getfield 26, 0, [7, 8], [644]), none, none, some (.iload_n 2, 0, [], []), some (.invokestatic 124, 0, [134, 2, 7, 3, 0], [779, 39, 780]), none, none, some (.pop, 0, [], []), some (.iinc 3 1, 0, [], []), none, none, some (.goto (-33), 0, [26], []), none, none, some (.bipush (-4), 0, [], [])],
  [some (.ireturn, 0, [], [])]])
def km_X7_force : kn_M := (⟨"KnotLawModel", "force", "(II)I"⟩, prog_9_method_42_code, 5, some .int, (4, 89), [
  [some (.aload_n 0, 0, [], []), some (.iload_n 1, 0, [], []), some (.invokevirtual 58, 0, [110, 1, 7, 2, 0], [694, 39, 696, 17]), none, none, some (.ifCond .eq 13, 0, [18], []), none, none, some (.iload_n 2, 0, [], []), some (.iconst 1, 0, [], []), some (.bipush 8, 0, [], []), none, some (.invokestatic 42, 0, [106, 3, 7, 3, 0], [684, 39, 685]), none, none, some (.ifCond .ne 5, 0, [20], [])],
  [none, none, some (.iconst (-1), 0, [], []), some (.ireturn, 0, [], []), some (.iconst 0, 0, [], []), some (.istore_n 3, 0, [], []), some (.iload_n 3, 0, [], []), some (.bipush 99, 0, [], []), none, some (.if_icmp .gt 52, 0, [77], []), none, none, some (.aload_n 0, 0, [], []), some (.invokevirtual 134, 0, [143, 0, 7, 1, 0], [825, 39, 827, 27])],
  [some (.iconst 0, 0, [], []), some (.istore 4, 0, [], []), none, some (.iload 4, 0, [], []), none, some (.iload_n 2, 0, [], []), some (.if_icmp .ge 18, 0, [56], []), none, none, some (.aload_n 0, 0, [], []), some (.getfield 26, 0, [7, 8], [644]), none, none, some (.iload_n 3, 0, [], []), some (.invokestatic 124, 0, [134, 2, 7, 3, 0], [779, 39, 780])],
  [none, some (.pop, 0, [], []), some (.iinc 4 1, 0, [], []), none, none, some (.goto (-18), 0, [35], []), none, none, some (.aload_n 0, 0, [], []), some (.getfield 26, 0, [7, 8], [644]), none, none, some (.iconst 2, 0, [], []), some (.iaload, 0, [], []), some (.iload_n 1, 0, [], []), some (.invokestatic 54, 0, [107, 2, 7, 2, 0], [701, 39, 702])],
  [none, none, some (.ifCond .ne 5, 0, [71], []), none, none, some (.iload_n 3, 0, [], []), some (.ireturn, 0, [], []), some (.iinc 3 1, 0, [], []), none, none, some (.goto (-52), 0, [22], []), none, none, some (.bipush (-4), 0, [], []), none, some (.ireturn, 0, [], [])]])
def km_X7_needsOf : kn_M := (⟨"KnotLawModel", "needsOf", "(I)I"⟩, prog_9_method_43_code, 4, some .int, (1, 21), [
  [some (.iload_n 1, 0, [], []), some (.aload_n 0, 0, [], []), some (.getfield 23, 0, [7, 7], [643]), none, none, some (.iconst 2, 0, [], []), some (.iaload, 0, [], []), some (.iand, 0, [], []), some (.istore_n 2, 0, [], []), some (.aload_n 0, 0, [], []), some (.getfield 23, 0, [7, 7], [643]), none, none, some (.iconst 5, 0, [], []), some (.iaload, 0, [], []), some (.iconst 1, 0, [], [])],
  [some (.isub, 0, [], []), some (.istore_n 3, 0, [], []), some (.iload_n 3, 0, [], []), some (.ifCond .lt 40, 0, [59], []), none, none, some (.iload_n 2, 0, [], []), some (.iload_n 2, 0, [], []), some (.iload_n 3, 0, [], []), some (.invokestatic 54, 0, [107, 2, 7, 2, 0], [701, 39, 702]), none, none, some (.ifCond .eq 22, 0, [50], []), none, none, some (.aload_n 0, 0, [], [])],
  [some (.getfield 23, 0, [7, 7], [643]), none, none, some (.bipush 22, 0, [], []), none, some (.iload_n 3, 0, [], []), some (.iadd, 0, [], []), some (.iaload, 0, [], []), some (.aload_n 0, 0, [], []), some (.getfield 23, 0, [7, 7], [643]), none, none, some (.iconst 2, 0, [], []), some (.iaload, 0, [], []), some (.iand, 0, [], []), some (.goto 4, 0, [51], [])],
  [none, none, some (.iconst 0, 0, [], []), some (.ior, 0, [], []), some (.istore_n 2, 0, [], []), some (.iinc 3 (-1), 0, [], []), none, none, some (.goto (-38), 0, [18], []), none, none, some (.iload_n 2, 0, [], []), some (.ireturn, 0, [], [])]])
def km_X7_needs : kn_M := (⟨"KnotLawModel", "needs", "(I)I"⟩, prog_9_method_44_code, 2, some .int, (2, 44), [
  [some (.aload_n 0, 0, [], []), some (.iload_n 1, 0, [], []), some (.invokevirtual 58, 0, [110, 1, 7, 2, 0], [694, 39, 696, 17]), none, none, some (.ifCond .eq 19, 0, [24], []), none, none, some (.aload_n 0, 0, [], []), some (.iconst 1, 0, [], []), some (.iload_n 1, 0, [], []), some (.ishl, 0, [], []), some (.invokevirtual 137, 0, [147, 1, 7, 4, 0], [837, 39, 839, 28]), none, none, some (.iconst 1, 0, [], [])],
  [some (.iload_n 1, 0, [], []), some (.ishl, 0, [], []), some (.iconst (-1), 0, [], []), some (.ixor, 0, [], []), some (.iand, 0, [], []), some (.goto 4, 0, [25], []), none, none, some (.iconst (-1), 0, [], []), some (.ireturn, 0, [], [])]])
def km_X7_deep : kn_M := (⟨"KnotLawModel", "deep", "()I"⟩, prog_9_method_45_code, 5, some .int, (1, 21), [
  [some (.aload_n 0, 0, [], []), some (.getfield 26, 0, [7, 8], [644]), none, none, some (.astore_n 1, 0, [], []), some (.iconst 0, 0, [], []), some (.istore_n 2, 0, [], []), some (.iconst 0, 0, [], []), some (.istore_n 3, 0, [], []), some (.iload_n 3, 0, [], []), some (.aload_n 0, 0, [], []), some (.getfield 23, 0, [7, 7], [643]), none, none, some (.iconst 5, 0, [], []), some (.iaload, 0, [], [])],
  [some (.if_icmp .ge 103, 0, [119], []), none, none, some (.aload_n 1, 0, [], []), some (.iload_n 3, 0, [], []), some (.iconst 0, 0, [], []), some (.iastore, 0, [], []), some (.aload_n 0, 0, [], []), some (.getfield 23, 0, [7, 7], [643]), none, none, some (.iconst 2, 0, [], []), some (.iaload, 0, [], []), some (.iload_n 3, 0, [], []), some (.invokestatic 54, 0, [107, 2, 7, 2, 0], [701, 39, 702])],
  [none, some (.ifCond .eq 65, 0, [98], []), none, none, some (.iconst 0, 0, [], []), some (.istore 4, 0, [], []), none, some (.iload 4, 0, [], []), none, some (.iload_n 3, 0, [], []), some (.if_icmp .ge 49, 0, [91], []), none, none, some (.aload_n 1, 0, [], []), some (.iload_n 3, 0, [], []), some (.aload_n 0, 0, [], [])],
  [some (.getfield 23, 0, [7, 7], [643]), none, none, some (.bipush 22, 0, [], []), none, some (.iload_n 3, 0, [], []), some (.iadd, 0, [], []), some (.iaload, 0, [], []), some (.iload 4, 0, [], []), none, some (.invokestatic 54, 0, [107, 2, 7, 2, 0], [701, 39, 702]), none, none, some (.ifCond .eq 20, 0, [81], [])],
  [some (.aload_n 1, 0, [], []), some (.iload 4, 0, [], []), none, some (.iaload, 0, [], []), some (.aload_n 1, 0, [], []), some (.iload_n 3, 0, [], []), some (.iaload, 0, [], []), some (.if_icmp .le 10, 0, [81], []), none, none, some (.aload_n 1, 0, [], []), some (.iload 4, 0, [], []), none, some (.iaload, 0, [], []), some (.goto 6, 0, [84], [])],
  [none, some (.aload_n 1, 0, [], []), some (.iload_n 3, 0, [], []), some (.iaload, 0, [], []), some (.iastore, 0, [], []), some (.iinc 4 1, 0, [], []), none, none, some (.goto (-49), 0, [39], []), none, none, some (.aload_n 1, 0, [], []), some (.iload_n 3, 0, [], []), some (.dup2, 0, [], []), some (.iaload, 0, [], []), some (.iconst 1, 0, [], [])],
  [some (.iadd, 0, [], []), some (.iastore, 0, [], []), some (.aload_n 1, 0, [], []), some (.iload_n 3, 0, [], []), some (.iaload, 0, [], []), some (.iload_n 2, 0, [], []), some (.if_icmp .le 9, 0, [111], []), none, none, some (.aload_n 1, 0, [], []), some (.iload_n 3, 0, [], []), some (.iaload, 0, [], []), some (.goto 4, 0, [112], []), none, none, some (.iload_n 2, 0, [], [])],
  [some (.istore_n 2, 0, [], []), some (.iinc 3 1, 0, [], []), none, none, some (.goto (-107), 0, [9], []), none, none, some (.iload_n 2, 0, [], []), some (.ireturn, 0, [], [])]])
def km_X7_frees : kn_M := (⟨"KnotLawModel", "frees", "(II)I"⟩, prog_9_method_46_code, 4, some .int, (2, 44), [
  [some (.iload_n 1, 0, [], []), some (.iconst 0, 0, [], []), some (.iconst 3, 0, [], []), some (.invokestatic 42, 0, [106, 3, 7, 3, 0], [684, 39, 685]), none, none, some (.ifCond .eq 12, 0, [18], []), none, none, some (.iload_n 2, 0, [], []), some (.iconst 0, 0, [], []), some (.iconst 1, 0, [], []), some (.invokestatic 42, 0, [106, 3, 7, 3, 0], [684, 39, 685]), none, none, some (.ifCond .ne 5, 0, [20], [])],
  [none, none, some (.iconst (-1), 0, [], []), some (.ireturn, 0, [], []), some (.aload_n 0, 0, [], []), some (.aload_n 0, 0, [], []), some (.iload_n 1, 0, [], []), some (.invokevirtual 70, 0, [117, 1, 7, 4, 0], [714, 39, 716, 18]), none, none, some (.invokevirtual 137, 0, [147, 1, 7, 4, 0], [837, 39, 839, 28]), none, none, some (.istore_n 3, 0, [], []), some (.iload_n 2, 0, [], []), some (.ifCond .ne 10, 0, [41], [])],
  [none, none, some (.iload_n 3, 0, [], []), some (.invokestatic 140, 0, [108, 1, 7, 3, 0], [849, 39, 850]), none, none, some (.goto 4, 0, [42], []), none, none, some (.iload_n 3, 0, [], []), some (.ireturn, 0, [], [])]])
def km_X7_layWays : kn_M := (⟨"KnotLawModel", "layWays", "(II)V"⟩, prog_9_method_47_code, 6, none, (2, 43), [
  [some (.aload_n 0, 0, [], []), some (.getfield 35, 0, [7, 12], [648]), none, none, some (.iconst 0, 0, [], []), some (.iconst 1, 0, [], []), some (.iastore, 0, [], []), some (.iconst 1, 0, [], []), some (.istore_n 3, 0, [], []), some (.iload_n 3, 0, [], []), some (.aload_n 0, 0, [], []), some (.getfield 23, 0, [7, 7], [643]), none, none, some (.iconst 2, 0, [], []), some (.iaload, 0, [], [])],
  [some (.if_icmp .gt 114, 0, [130], []), none, none, some (.aload_n 0, 0, [], []), some (.getfield 35, 0, [7, 12], [648]), none, none, some (.iload_n 3, 0, [], []), some (.iconst 0, 0, [], []), some (.iastore, 0, [], []), some (.iload_n 3, 0, [], []), some (.aload_n 0, 0, [], []), some (.getfield 23, 0, [7, 7], [643]), none, none, some (.iconst 2, 0, [], [])],
  [some (.iaload, 0, [], []), some (.iconst (-1), 0, [], []), some (.ixor, 0, [], []), some (.iand, 0, [], []), some (.ifCond .ne 88, 0, [124], []), none, none, some (.iconst 0, 0, [], []), some (.istore 4, 0, [], []), none, some (.iload 4, 0, [], []), none, some (.aload_n 0, 0, [], []), some (.getfield 23, 0, [7, 7], [643])],
  [some (.iconst 5, 0, [], []), some (.iaload, 0, [], []), some (.if_icmp .ge 74, 0, [124], []), none, none, some (.aload_n 0, 0, [], []), some (.getfield 23, 0, [7, 7], [643]), none, none, some (.iload 4, 0, [], []), none, some (.iload_n 3, 0, [], []), some (.invokestatic 62, 0, [115, 3, 7, 3, 0], [698, 39, 699]), none, none, some (.ifCond .eq 21, 0, [84], [])],
  [none, none, some (.iload 4, 0, [], []), none, some (.iload_n 1, 0, [], []), some (.if_icmp .ne 11, 0, [80], []), none, none, some (.iload_n 3, 0, [], []), some (.iload_n 2, 0, [], []), some (.invokestatic 54, 0, [107, 2, 7, 2, 0], [701, 39, 702]), none, none, some (.ifCond .ne 7, 0, [84], [])],
  [some (.iconst 1, 0, [], []), some (.goto 4, 0, [85], []), none, none, some (.iconst 0, 0, [], []), some (.istore 5, 0, [], []), none, some (.aload_n 0, 0, [], []), some (.getfield 35, 0, [7, 12], [648]), none, none, some (.iload_n 3, 0, [], []), some (.dup2, 0, [], []), some (.iaload, 0, [], []), some (.iload 5, 0, [], [])],
  [some (.ifCond .eq 19, 0, [115], []), none, none, some (.aload_n 0, 0, [], []), some (.getfield 35, 0, [7, 12], [648]), none, none, some (.iload_n 3, 0, [], []), some (.iconst 1, 0, [], []), some (.iload 4, 0, [], []), none, some (.ishl, 0, [], []), some (.iconst (-1), 0, [], []), some (.ixor, 0, [], []), some (.iand, 0, [], []), some (.iaload, 0, [], [])],
  [some (.goto 4, 0, [116], []), none, none, some (.iconst 0, 0, [], []), some (.iadd, 0, [], []), some (.iastore, 0, [], []), some (.iinc 4 1, 0, [], []), none, none, some (.goto (-79), 0, [42], []), none, none, some (.iinc 3 1, 0, [], []), none, none, some (.goto (-118), 0, [9], [])],
  [none, none, some (.return_, 0, [], [])]])
def km_X7_orders : kn_M := (⟨"KnotLawModel", "orders", "(I)I"⟩, prog_9_method_48_code, 5, some .int, (3, 68), [
  [some (.iload_n 1, 0, [], []), some (.iconst (-1), 0, [], []), some (.if_icmp .ge 5, 0, [7], []), none, none, some (.iconst (-1), 0, [], []), some (.ireturn, 0, [], []), some (.iload_n 1, 0, [], []), some (.iconst (-1), 0, [], []), some (.if_icmp .ne 21, 0, [30], []), none, none, some (.aload_n 0, 0, [], []), some (.iconst (-1), 0, [], []), some (.iconst 0, 0, [], []), some (.invokevirtual 143, 0, [151, 2, 7, 6, 0], [856, 39, 858, 29])],
  [none, none, some (.aload_n 0, 0, [], []), some (.getfield 35, 0, [7, 12], [648]), none, none, some (.aload_n 0, 0, [], []), some (.getfield 23, 0, [7, 7], [643]), none, none, some (.iconst 2, 0, [], []), some (.iaload, 0, [], []), some (.iaload, 0, [], []), some (.ireturn, 0, [], []), some (.aload_n 0, 0, [], []), some (.getfield 23, 0, [7, 7], [643])],
  [none, none, some (.iconst 2, 0, [], []), some (.iaload, 0, [], []), some (.istore_n 2, 0, [], []), some (.iconst 0, 0, [], []), some (.istore_n 3, 0, [], []), some (.iload_n 2, 0, [], []), some (.ifCond .eq 48, 0, [88], []), none, none, some (.iconst 0, 0, [], []), some (.istore 4, 0, [], []), none, some (.aload_n 0, 0, [], []), some (.getfield 23, 0, [7, 7], [643])],
  [none, none, some (.iload 4, 0, [], []), none, some (.iload_n 2, 0, [], []), some (.invokestatic 62, 0, [115, 3, 7, 3, 0], [698, 39, 699]), none, none, some (.ifCond .ne 9, 0, [65], []), none, none, some (.iinc 4 1, 0, [], []), none, none, some (.goto (-16), 0, [46], [])],
  [none, some (.iload_n 3, 0, [], []), some (.iload_n 1, 0, [], []), some (.if_icmp .ne 6, 0, [73], []), none, none, some (.iload 4, 0, [], []), none, some (.ireturn, 0, [], []), some (.iload_n 2, 0, [], []), some (.iconst 1, 0, [], []), some (.iload 4, 0, [], []), none, some (.ishl, 0, [], []), some (.iconst (-1), 0, [], []), some (.ixor, 0, [], [])],
  [some (.iand, 0, [], []), some (.istore_n 2, 0, [], []), some (.iinc 3 1, 0, [], []), none, none, some (.goto (-46), 0, [39], []), none, none, some (.bipush (-4), 0, [], []), none, some (.ireturn, 0, [], [])]])
def km_X7_partOf : kn_M := (⟨"KnotLawModel", "partOf", "(III)I"⟩, prog_9_method_49_code, 6, some .int, (0, 0), [
  [some (.iload_n 0, 0, [], []), some (.istore_n 3, 0, [], []), some (.iload_n 1, 0, [], []), some (.istore 4, 0, [], []), none, some (.iload 4, 0, [], []), none, some (.ifCond .le 19, 0, [26], []), none, none, some (.iload_n 3, 0, [], []), some (.iload 4, 0, [], []), none, some (.irem, 0, [], []), some (.istore 5, 0, [], [])],
  [some (.iload 4, 0, [], []), none, some (.istore_n 3, 0, [], []), some (.iload 5, 0, [], []), none, some (.istore 4, 0, [], []), none, some (.goto (-18), 0, [5], []), none, none, some (.iload_n 2, 0, [], []), some (.ifCond .ne 7, 0, [34], []), none, none, some (.iload_n 0, 0, [], []), some (.goto 4, 0, [35], [])],
  [none, none, some (.iload_n 1, 0, [], []), some (.iload_n 3, 0, [], []), some (.idiv, 0, [], []), some (.ireturn, 0, [], [])]])
def km_X7_ahead : kn_M := (⟨"KnotLawModel", "ahead", "(III)I"⟩, prog_9_method_50_code, 5, some .int, (3, 68), [
  [some (.aload_n 0, 0, [], []), some (.iload_n 1, 0, [], []), some (.invokevirtual 58, 0, [110, 1, 7, 2, 0], [694, 39, 696, 17]), none, none, some (.ifCond .eq 25, 0, [30], []), none, none, some (.aload_n 0, 0, [], []), some (.iload_n 2, 0, [], []), some (.invokevirtual 58, 0, [110, 1, 7, 2, 0], [694, 39, 696, 17]), none, none, some (.ifCond .eq 17, 0, [30], [])],
  [some (.iload_n 1, 0, [], []), some (.iload_n 2, 0, [], []), some (.if_icmp .eq 12, 0, [30], []), none, none, some (.iload_n 3, 0, [], []), some (.iconst 0, 0, [], []), some (.iconst 1, 0, [], []), some (.invokestatic 42, 0, [106, 3, 7, 3, 0], [684, 39, 685]), none, none, some (.ifCond .ne 5, 0, [32], []), none, none, some (.iconst (-1), 0, [], []), some (.ireturn, 0, [], [])],
  [some (.aload_n 0, 0, [], []), some (.getfield 23, 0, [7, 7], [643]), none, none, some (.iconst 2, 0, [], []), some (.iaload, 0, [], []), some (.iload_n 1, 0, [], []), some (.invokestatic 54, 0, [107, 2, 7, 2, 0], [701, 39, 702]), none, none, some (.ifCond .eq 16, 0, [58], []), none, none, some (.aload_n 0, 0, [], []), some (.getfield 23, 0, [7, 7], [643])],
  [none, some (.iconst 2, 0, [], []), some (.iaload, 0, [], []), some (.iload_n 2, 0, [], []), some (.invokestatic 54, 0, [107, 2, 7, 2, 0], [701, 39, 702]), none, none, some (.ifCond .ne 6, 0, [61], []), none, none, some (.bipush (-2), 0, [], []), none, some (.ireturn, 0, [], []), some (.aload_n 0, 0, [], []), some (.iconst (-1), 0, [], []), some (.iconst 0, 0, [], [])],
  [some (.invokevirtual 143, 0, [151, 2, 7, 6, 0], [856, 39, 858, 29]), none, none, some (.aload_n 0, 0, [], []), some (.getfield 35, 0, [7, 12], [648]), none, none, some (.aload_n 0, 0, [], []), some (.getfield 23, 0, [7, 7], [643]), none, none, some (.iconst 2, 0, [], []), some (.iaload, 0, [], []), some (.iaload, 0, [], []), some (.istore 4, 0, [], [])],
  [some (.aload_n 0, 0, [], []), some (.iload_n 2, 0, [], []), some (.iload_n 1, 0, [], []), some (.invokevirtual 143, 0, [151, 2, 7, 6, 0], [856, 39, 858, 29]), none, none, some (.aload_n 0, 0, [], []), some (.getfield 35, 0, [7, 12], [648]), none, none, some (.aload_n 0, 0, [], []), some (.getfield 23, 0, [7, 7], [643]), none, none, some (.iconst 2, 0, [], []), some (.iaload, 0, [], [])],
  [some (.iaload, 0, [], []), some (.iload 4, 0, [], []), none, some (.iload_n 3, 0, [], []), some (.invokestatic 147, 0, [153, 3, 7, 6, 0], [864, 39, 865]), none, none, some (.ireturn, 0, [], [])]])
def km_X7_game : kn_M := (⟨"KnotLawModel", "game", "(II)I"⟩, prog_9_method_51_code, 6, some .int, (2, 43), [
  [some (.iload_n 1, 0, [], []), some (.iconst 0, 0, [], []), some (.iconst 1, 0, [], []), some (.invokestatic 42, 0, [106, 3, 7, 3, 0], [684, 39, 685]), none, none, some (.ifCond .eq 12, 0, [18], []), none, none, some (.iload_n 2, 0, [], []), some (.iconst 0, 0, [], []), some (.iconst 1, 0, [], []), some (.invokestatic 42, 0, [106, 3, 7, 3, 0], [684, 39, 685]), none, none, some (.ifCond .ne 5, 0, [20], [])],
  [none, none, some (.iconst (-1), 0, [], []), some (.ireturn, 0, [], []), some (.bipush (-4), 0, [], []), none, some (.istore_n 3, 0, [], []), some (.aload_n 0, 0, [], []), some (.getfield 38, 0, [7, 13], [649]), none, none, some (.iconst 0, 0, [], []), some (.iload_n 1, 0, [], []), some (.iconst 1, 0, [], []), some (.if_icmp .ne 7, 0, [37], [])],
  [none, some (.iconst 1, 0, [], []), some (.goto 4, 0, [38], []), none, none, some (.iconst 0, 0, [], []), some (.bastore, 0, [], []), some (.iconst 1, 0, [], []), some (.istore 4, 0, [], []), none, some (.iload 4, 0, [], []), none, some (.aload_n 0, 0, [], []), some (.getfield 23, 0, [7, 7], [643])],
  [some (.iconst 2, 0, [], []), some (.iaload, 0, [], []), some (.if_icmp .gt 97, 0, [147], []), none, none, some (.aload_n 0, 0, [], []), some (.getfield 38, 0, [7, 13], [649]), none, none, some (.iload 4, 0, [], []), none, some (.iconst 0, 0, [], []), some (.bastore, 0, [], []), some (.bipush (-4), 0, [], []), none, some (.istore_n 3, 0, [], [])],
  [some (.aload_n 0, 0, [], []), some (.getfield 23, 0, [7, 7], [643]), none, none, some (.iconst 5, 0, [], []), some (.iaload, 0, [], []), some (.iconst 1, 0, [], []), some (.isub, 0, [], []), some (.istore 5, 0, [], []), none, some (.iload 5, 0, [], []), none, some (.ifCond .lt 65, 0, [141], []), none, none, some (.iload 4, 0, [], [])],
  [none, some (.aload_n 0, 0, [], []), some (.getfield 23, 0, [7, 7], [643]), none, none, some (.iconst 2, 0, [], []), some (.iaload, 0, [], []), some (.iconst (-1), 0, [], []), some (.ixor, 0, [], []), some (.iand, 0, [], []), some (.ifCond .ne 51, 0, [141], []), none, none, some (.aload_n 0, 0, [], []), some (.getfield 23, 0, [7, 7], [643])],
  [none, some (.iload 5, 0, [], []), none, some (.iload 4, 0, [], []), none, some (.invokestatic 62, 0, [115, 3, 7, 3, 0], [698, 39, 699]), none, none, some (.ifCond .eq 31, 0, [135], []), none, none, some (.aload_n 0, 0, [], []), some (.getfield 38, 0, [7, 13], [649]), none, none, some (.iload 4, 0, [], [])],
  [none, some (.iconst 1, 0, [], []), some (.iload 5, 0, [], []), none, some (.ishl, 0, [], []), some (.iconst (-1), 0, [], []), some (.ixor, 0, [], []), some (.iand, 0, [], []), some (.baload, 0, [], []), some (.ifCond .ne 14, 0, [135], []), none, none, some (.aload_n 0, 0, [], []), some (.getfield 38, 0, [7, 13], [649])],
  [some (.iload 4, 0, [], []), none, some (.iconst 1, 0, [], []), some (.bastore, 0, [], []), some (.iload 5, 0, [], []), none, some (.istore_n 3, 0, [], []), some (.iinc 5 (-1), 0, [], []), none, none, some (.goto (-64), 0, [74], []), none, none, some (.iinc 4 1, 0, [], [])],
  [some (.goto (-102), 0, [42], []), none, none, some (.iload_n 2, 0, [], []), some (.ifCond .ne 25, 0, [173], []), none, none, some (.aload_n 0, 0, [], []), some (.getfield 38, 0, [7, 13], [649]), none, none, some (.aload_n 0, 0, [], []), some (.getfield 23, 0, [7, 7], [643]), none, none, some (.iconst 2, 0, [], [])],
  [some (.iaload, 0, [], []), some (.baload, 0, [], []), some (.ifCond .eq 7, 0, [169], []), none, none, some (.iconst 1, 0, [], []), some (.goto 8, 0, [174], []), none, none, some (.iconst 0, 0, [], []), some (.goto 4, 0, [174], []), none, none, some (.iload_n 3, 0, [], []), some (.ireturn, 0, [], [])]])
def km_X7_cuts : kn_M := (⟨"KnotLawModel", "cuts", "(III)I"⟩, prog_9_method_52_code, 7, some .int, (4, 89), [
  [some (.aload_n 0, 0, [], []), some (.iload_n 1, 0, [], []), some (.invokevirtual 58, 0, [110, 1, 7, 2, 0], [694, 39, 696, 17]), none, none, some (.ifCond .eq 22, 0, [27], []), none, none, some (.iload_n 2, 0, [], []), some (.iconst 0, 0, [], []), some (.bipush 99, 0, [], []), none, some (.invokestatic 42, 0, [106, 3, 7, 3, 0], [684, 39, 685]), none, none, some (.ifCond .eq 12, 0, [27], [])],
  [none, none, some (.iload_n 3, 0, [], []), some (.iconst 0, 0, [], []), some (.iconst 1, 0, [], []), some (.invokestatic 42, 0, [106, 3, 7, 3, 0], [684, 39, 685]), none, none, some (.ifCond .ne 5, 0, [29], []), none, none, some (.iconst (-1), 0, [], []), some (.ireturn, 0, [], []), some (.bipush (-4), 0, [], []), none, some (.istore 4, 0, [], [])],
  [none, some (.iconst 0, 0, [], []), some (.istore 5, 0, [], []), none, some (.iload 5, 0, [], []), none, some (.aload_n 0, 0, [], []), some (.getfield 23, 0, [7, 7], [643]), none, none, some (.iconst 2, 0, [], []), some (.iaload, 0, [], []), some (.if_icmp .gt 109, 0, [153], []), none, none, some (.iload 5, 0, [], [])],
  [none, some (.aload_n 0, 0, [], []), some (.getfield 23, 0, [7, 7], [643]), none, none, some (.iconst 2, 0, [], []), some (.iaload, 0, [], []), some (.iconst (-1), 0, [], []), some (.ixor, 0, [], []), some (.iand, 0, [], []), some (.ifCond .ne 36, 0, [94], []), none, none, some (.iload 5, 0, [], []), none, some (.iload_n 1, 0, [], [])],
  [some (.invokestatic 54, 0, [107, 2, 7, 2, 0], [701, 39, 702]), none, none, some (.ifCond .ne 27, 0, [94], []), none, none, some (.iload 4, 0, [], []), none, some (.bipush (-4), 0, [], []), none, some (.if_icmp .eq 16, 0, [90], []), none, none, some (.iload 5, 0, [], []), none, some (.invokestatic 140, 0, [108, 1, 7, 3, 0], [849, 39, 850])],
  [none, none, some (.iload 4, 0, [], []), none, some (.invokestatic 140, 0, [108, 1, 7, 3, 0], [849, 39, 850]), none, none, some (.if_icmp .ge 7, 0, [94], []), none, none, some (.iconst 1, 0, [], []), some (.goto 4, 0, [95], []), none, none, some (.iconst 0, 0, [], []), some (.istore 6, 0, [], [])],
  [none, some (.iload 6, 0, [], []), none, some (.ifCond .eq 48, 0, [147], []), none, none, some (.aload_n 0, 0, [], []), some (.invokevirtual 134, 0, [143, 0, 7, 1, 0], [825, 39, 827, 27]), none, none, some (.aload_n 0, 0, [], []), some (.getfield 26, 0, [7, 8], [644]), none, none, some (.iconst 2, 0, [], []), some (.aload_n 0, 0, [], [])],
  [some (.getfield 26, 0, [7, 8], [644]), none, none, some (.iconst 2, 0, [], []), some (.iaload, 0, [], []), some (.iload 5, 0, [], []), none, some (.iconst (-1), 0, [], []), some (.ixor, 0, [], []), some (.iand, 0, [], []), some (.iastore, 0, [], []), some (.aload_n 0, 0, [], []), some (.getfield 26, 0, [7, 8], [644]), none, none, some (.iload_n 2, 0, [], [])],
  [some (.invokestatic 124, 0, [134, 2, 7, 3, 0], [779, 39, 780]), none, none, some (.iload_n 1, 0, [], []), some (.invokestatic 54, 0, [107, 2, 7, 2, 0], [701, 39, 702]), none, none, some (.ifCond .eq 8, 0, [143], []), none, none, some (.iload 5, 0, [], []), none, some (.goto 5, 0, [145], []), none, none, some (.iload 4, 0, [], [])],
  [none, some (.istore 4, 0, [], []), none, some (.iinc 5 1, 0, [], []), none, none, some (.goto (-114), 0, [36], []), none, none, some (.iload 4, 0, [], []), none, some (.bipush (-4), 0, [], []), none, some (.if_icmp .ne 8, 0, [165], [])],
  [some (.bipush (-4), 0, [], []), none, some (.goto 17, 0, [179], []), none, none, some (.iload_n 3, 0, [], []), some (.ifCond .ne 11, 0, [177], []), none, none, some (.iload 4, 0, [], []), none, some (.invokestatic 140, 0, [108, 1, 7, 3, 0], [849, 39, 850]), none, none, some (.goto 5, 0, [179], [])],
  [none, some (.iload 4, 0, [], []), none, some (.ireturn, 0, [], [])]])
def km_X7_weather : kn_M := (⟨"KnotLawModel", "weather", "(II)I"⟩, prog_9_method_53_code, 4, some .int, (2, 45), [
  [some (.aload_n 0, 0, [], []), some (.iload_n 1, 0, [], []), some (.invokevirtual 58, 0, [110, 1, 7, 2, 0], [694, 39, 696, 17]), none, none, some (.ifCond .eq 13, 0, [18], []), none, none, some (.iload_n 2, 0, [], []), some (.iconst 0, 0, [], []), some (.bipush 99, 0, [], []), none, some (.invokestatic 42, 0, [106, 3, 7, 3, 0], [684, 39, 685]), none, none, some (.ifCond .ne 5, 0, [20], [])],
  [none, none, some (.iconst (-1), 0, [], []), some (.ireturn, 0, [], []), some (.aload_n 0, 0, [], []), some (.invokevirtual 134, 0, [143, 0, 7, 1, 0], [825, 39, 827, 27]), none, none, some (.iconst 0, 0, [], []), some (.istore_n 3, 0, [], []), some (.iload_n 3, 0, [], []), some (.bipush 60, 0, [], []), none, some (.if_icmp .gt 33, 0, [62], [])],
  [some (.aload_n 0, 0, [], []), some (.getfield 26, 0, [7, 8], [644]), none, none, some (.iload_n 1, 0, [], []), some (.invokestatic 66, 0, [114, 2, 7, 2, 0], [704, 39, 705]), none, none, some (.iload_n 2, 0, [], []), some (.if_icmp .gt 5, 0, [46], []), none, none, some (.iload_n 3, 0, [], []), some (.ireturn, 0, [], []), some (.aload_n 0, 0, [], []), some (.getfield 26, 0, [7, 8], [644])],
  [none, none, some (.iconst 0, 0, [], []), some (.dup2, 0, [], []), some (.iaload, 0, [], []), some (.iconst 1, 0, [], []), some (.iadd, 0, [], []), some (.iastore, 0, [], []), some (.iinc 3 1, 0, [], []), none, none, some (.goto (-33), 0, [26], []), none, none, some (.bipush (-4), 0, [], [])],
  [some (.ireturn, 0, [], [])]])
def km_X7_rotten : kn_M := (⟨"KnotLawModel", "rotten", "(IIII)I"⟩, prog_9_method_54_code, 10, some .int, (4, 89), [
  [some (.aload_n 0, 0, [], []), some (.iload_n 1, 0, [], []), some (.invokevirtual 58, 0, [110, 1, 7, 2, 0], [694, 39, 696, 17]), none, none, some (.ifCond .eq 33, 0, [38], []), none, none, some (.iload_n 2, 0, [], []), some (.iconst 0, 0, [], []), some (.bipush 99, 0, [], []), none, some (.invokestatic 42, 0, [106, 3, 7, 3, 0], [684, 39, 685]), none, none, some (.ifCond .eq 23, 0, [38], [])],
  [none, none, some (.iload_n 3, 0, [], []), some (.iconst 0, 0, [], []), some (.bipush 10, 0, [], []), none, some (.invokestatic 42, 0, [106, 3, 7, 3, 0], [684, 39, 685]), none, none, some (.ifCond .eq 13, 0, [38], []), none, none, some (.iload 4, 0, [], []), none, some (.iconst 0, 0, [], []), some (.iconst 1, 0, [], [])],
  [some (.invokestatic 42, 0, [106, 3, 7, 3, 0], [684, 39, 685]), none, none, some (.ifCond .ne 5, 0, [40], []), none, none, some (.iconst (-1), 0, [], []), some (.ireturn, 0, [], []), some (.iconst 0, 0, [], []), some (.istore 5, 0, [], []), none, some (.iconst 1, 0, [], []), some (.istore 6, 0, [], []), none, some (.iconst 0, 0, [], []), some (.istore 7, 0, [], [])],
  [none, some (.iload 7, 0, [], []), none, some (.aload_n 0, 0, [], []), some (.getfield 23, 0, [7, 7], [643]), none, none, some (.iconst 2, 0, [], []), some (.iaload, 0, [], []), some (.invokestatic 140, 0, [108, 1, 7, 3, 0], [849, 39, 850]), none, none, some (.if_icmp .ge 16, 0, [76], []), none, none, some (.iload 6, 0, [], [])],
  [none, some (.bipush 10, 0, [], []), none, some (.imul, 0, [], []), some (.istore 6, 0, [], []), none, some (.iinc 7 1, 0, [], []), none, none, some (.goto (-24), 0, [49], []), none, none, some (.iconst 0, 0, [], []), some (.istore 7, 0, [], []), none, some (.iload 7, 0, [], [])],
  [none, some (.aload_n 0, 0, [], []), some (.getfield 23, 0, [7, 7], [643]), none, none, some (.iconst 2, 0, [], []), some (.iaload, 0, [], []), some (.if_icmp .gt 141, 0, [228], []), none, none, some (.iload 7, 0, [], []), none, some (.aload_n 0, 0, [], []), some (.getfield 23, 0, [7, 7], [643])],
  [some (.iconst 2, 0, [], []), some (.iaload, 0, [], []), some (.iconst (-1), 0, [], []), some (.ixor, 0, [], []), some (.iand, 0, [], []), some (.ifCond .ne 121, 0, [222], []), none, none, some (.iconst 1, 0, [], []), some (.istore 8, 0, [], []), none, some (.iconst 0, 0, [], []), some (.istore 9, 0, [], []), none, some (.iload 9, 0, [], [])],
  [some (.aload_n 0, 0, [], []), some (.getfield 23, 0, [7, 7], [643]), none, none, some (.iconst 5, 0, [], []), some (.iaload, 0, [], []), some (.if_icmp .ge 50, 0, [168], []), none, none, some (.iload 8, 0, [], []), none, some (.aload_n 0, 0, [], []), some (.getfield 23, 0, [7, 7], [643]), none, none, some (.iconst 2, 0, [], [])],
  [some (.iaload, 0, [], []), some (.iload 9, 0, [], []), none, some (.invokestatic 54, 0, [107, 2, 7, 2, 0], [701, 39, 702]), none, none, some (.ifCond .ne 7, 0, [141], []), none, none, some (.iconst 1, 0, [], []), some (.goto 21, 0, [159], []), none, none, some (.iload 7, 0, [], []), none, some (.iload 9, 0, [], [])],
  [none, some (.invokestatic 54, 0, [107, 2, 7, 2, 0], [701, 39, 702]), none, none, some (.ifCond .eq 7, 0, [155], []), none, none, some (.iload_n 3, 0, [], []), some (.goto 7, 0, [159], []), none, none, some (.bipush 10, 0, [], []), none, some (.iload_n 3, 0, [], []), some (.isub, 0, [], []), some (.imul, 0, [], [])],
  [some (.istore 8, 0, [], []), none, some (.iinc 9 1, 0, [], []), none, none, some (.goto (-55), 0, [110], []), none, none, some (.aload_n 0, 0, [], []), some (.invokevirtual 134, 0, [143, 0, 7, 1, 0], [825, 39, 827, 27]), none, none, some (.aload_n 0, 0, [], []), some (.getfield 26, 0, [7, 8], [644])],
  [some (.iconst 2, 0, [], []), some (.aload_n 0, 0, [], []), some (.getfield 26, 0, [7, 8], [644]), none, none, some (.iconst 2, 0, [], []), some (.iaload, 0, [], []), some (.iload 7, 0, [], []), none, some (.iconst (-1), 0, [], []), some (.ixor, 0, [], []), some (.iand, 0, [], []), some (.iastore, 0, [], []), some (.aload_n 0, 0, [], []), some (.getfield 26, 0, [7, 8], [644])],
  [none, some (.iload_n 2, 0, [], []), some (.invokestatic 124, 0, [134, 2, 7, 3, 0], [779, 39, 780]), none, none, some (.pop, 0, [], []), some (.iload 5, 0, [], []), none, some (.aload_n 0, 0, [], []), some (.getfield 26, 0, [7, 8], [644]), none, none, some (.iconst 2, 0, [], []), some (.iaload, 0, [], []), some (.iload_n 1, 0, [], []), some (.invokestatic 54, 0, [107, 2, 7, 2, 0], [701, 39, 702])],
  [none, none, some (.ifCond .eq 7, 0, [217], []), none, none, some (.iconst 0, 0, [], []), some (.goto 5, 0, [219], []), none, none, some (.iload 8, 0, [], []), none, some (.iadd, 0, [], []), some (.istore 5, 0, [], []), none, some (.iinc 7 1, 0, [], [])],
  [none, some (.goto (-146), 0, [79], []), none, none, some (.iload 5, 0, [], []), none, some (.iload 6, 0, [], []), none, some (.iload 4, 0, [], []), none, some (.invokestatic 147, 0, [153, 3, 7, 6, 0], [864, 39, 865]), none, none, some (.ireturn, 0, [], [])]])
def km_X7_image : kn_M := (⟨"KnotLawModel", "image", "()I"⟩, prog_9_method_55_code, 1, some .int, (1, 25), [
  [some (.aload_n 0, 0, [], []), some (.getfield 23, 0, [7, 7], [643]), none, none, some (.iconst 0, 0, [], []), some (.aload_n 0, 0, [], []), some (.getfield 32, 0, [7, 10], [646]), none, none, some (.iconst 0, 0, [], []), some (.bipush 79, 0, [], []), none, some (.invokestatic 107, 0, [109, 5, 7, 6, 0], [757, 39, 758]), none, none, some (.aload_n 0, 0, [], [])],
  [some (.iconst 1, 0, [], []), some (.putfield 151, 0, [7, 11, 2], [647]), none, none, some (.iconst 1, 0, [], []), some (.ireturn, 0, [], [])]])
def km_X7_restore : kn_M := (⟨"KnotLawModel", "restore", "()I"⟩, prog_9_method_56_code, 1, some .int, (1, 25), [
  [some (.aload_n 0, 0, [], []), some (.getfield 151, 0, [7, 11], [647]), none, none, some (.ifCond .ne 6, 0, [10], []), none, none, some (.bipush (-4), 0, [], []), none, some (.ireturn, 0, [], []), some (.aload_n 0, 0, [], []), some (.getfield 32, 0, [7, 10], [646]), none, none, some (.iconst 0, 0, [], []), some (.aload_n 0, 0, [], [])],
  [some (.getfield 23, 0, [7, 7], [643]), none, none, some (.iconst 0, 0, [], []), some (.bipush 79, 0, [], []), none, some (.invokestatic 107, 0, [109, 5, 7, 6, 0], [757, 39, 758]), none, none, some (.iconst 1, 0, [], []), some (.ireturn, 0, [], [])]])
def km_X7_isSheet : kn_M := (⟨"KnotLawModel", "isSheet", "(I)Z"⟩, prog_9_method_57_code, 1, some .boolean, (1, 22), [
  [some (.iload_n 0, 0, [], []), some (.iconst 0, 0, [], []), some (.iconst 3, 0, [], []), some (.invokestatic 42, 0, [106, 3, 7, 3, 0], [684, 39, 685]), none, none, some (.ireturn, 0, [], [])]])
def km_X7_isPart : kn_M := (⟨"KnotLawModel", "isPart", "(III)Z"⟩, prog_9_method_58_code, 3, some .boolean, (0, 0), [
  [some (.iload_n 1, 0, [], []), some (.ifCond .lt 23, 0, [24], []), none, none, some (.iload_n 0, 0, [], []), some (.ifCond .lt 19, 0, [24], []), none, none, some (.iload_n 1, 0, [], []), some (.iload_n 2, 0, [], []), some (.if_icmp .gt 14, 0, [24], []), none, none, some (.iload_n 0, 0, [], []), some (.iload_n 2, 0, [], []), some (.iload_n 1, 0, [], [])],
  [some (.isub, 0, [], []), some (.if_icmp .gt 7, 0, [24], []), none, none, some (.iconst 1, 0, [], []), some (.goto 4, 0, [25], []), none, none, some (.iconst 0, 0, [], []), some (.ireturn, 0, [], [])]])
def km_X7_wrong : kn_M := (⟨"KnotLawModel", "wrong", "(IIII)I"⟩, prog_9_method_59_code, 5, some .int, (1, 22), [
  [some (.aload_n 0, 0, [], []), some (.getfield 7, 0, [7, 0], [636]), none, none, some (.iload_n 1, 0, [], []), some (.iaload, 0, [], []), some (.ifCond .ge 8, 0, [14], []), none, none, some (.bipush (-11), 0, [], []), none, some (.goto 39, 0, [50], []), none, none, some (.aload_n 0, 0, [], []), some (.getfield 7, 0, [7, 0], [636])],
  [none, none, some (.iload_n 1, 0, [], []), some (.iaload, 0, [], []), some (.iload_n 2, 0, [], []), some (.if_icmp .eq 8, 0, [29], []), none, none, some (.bipush (-12), 0, [], []), none, some (.goto 24, 0, [50], []), none, none, some (.iload_n 3, 0, [], []), some (.iload 4, 0, [], [])],
  [some (.aload_n 0, 0, [], []), some (.getfield 13, 0, [7, 1], [637]), none, none, some (.iload_n 1, 0, [], []), some (.iaload, 0, [], []), some (.invokestatic 155, 0, [162, 3, 7, 3, 0], [902, 39, 903]), none, none, some (.ifCond .eq 7, 0, [48], []), none, none, some (.iconst 0, 0, [], []), some (.goto 5, 0, [50], [])],
  [some (.bipush (-13), 0, [], []), none, some (.ireturn, 0, [], [])]])
def km_X7_felt : kn_M := (⟨"KnotLawModel", "felt", "(IIIIII)I"⟩, prog_9_method_60_code, 13, some .int, (4, 89), [
  [some (.aload_n 0, 0, [], []), some (.iload_n 1, 0, [], []), some (.invokevirtual 58, 0, [110, 1, 7, 2, 0], [694, 39, 696, 17]), none, none, some (.ifCond .eq 40, 0, [45], []), none, none, some (.iload_n 2, 0, [], []), some (.invokestatic 158, 0, [161, 1, 7, 1, 0], [895, 39, 896]), none, none, some (.ifCond .eq 33, 0, [45], []), none, none, some (.iload_n 3, 0, [], [])],
  [some (.iconst 0, 0, [], []), some (.iconst 3, 0, [], []), some (.invokestatic 42, 0, [106, 3, 7, 3, 0], [684, 39, 685]), none, none, some (.ifCond .eq 24, 0, [45], []), none, none, some (.iload 5, 0, [], []), none, some (.iconst 1, 0, [], []), some (.bipush 6, 0, [], []), none, some (.invokestatic 42, 0, [106, 3, 7, 3, 0], [684, 39, 685])],
  [some (.ifCond .eq 13, 0, [45], []), none, none, some (.iload 6, 0, [], []), none, some (.iconst 0, 0, [], []), some (.iconst 1, 0, [], []), some (.invokestatic 42, 0, [106, 3, 7, 3, 0], [684, 39, 685]), none, none, some (.ifCond .ne 5, 0, [47], []), none, none, some (.iconst (-1), 0, [], []), some (.ireturn, 0, [], []), some (.aload_n 0, 0, [], [])],
  [some (.iload_n 2, 0, [], []), some (.iload_n 3, 0, [], []), some (.iload 4, 0, [], []), none, some (.iconst 2, 0, [], []), some (.iload 5, 0, [], []), none, some (.imul, 0, [], []), some (.invokevirtual 161, 0, [163, 4, 7, 5, 0], [898, 39, 900, 30]), none, none, some (.istore 7, 0, [], []), none, some (.iload 7, 0, [], []), none, some (.ifCond .eq 6, 0, [69], [])],
  [none, none, some (.iload 7, 0, [], []), none, some (.ireturn, 0, [], []), some (.iconst 0, 0, [], []), some (.istore 8, 0, [], []), none, some (.iload 8, 0, [], []), none, some (.iload 5, 0, [], []), none, some (.if_icmp .ge 47, 0, [123], []), none, none, some (.aload_n 0, 0, [], [])],
  [some (.getfield 16, 0, [7, 2], [638]), none, none, some (.bipush 24, 0, [], []), none, some (.iload_n 2, 0, [], []), some (.imul, 0, [], []), some (.iload 4, 0, [], []), none, some (.iadd, 0, [], []), some (.iconst 2, 0, [], []), some (.iload 8, 0, [], []), none, some (.imul, 0, [], []), some (.iadd, 0, [], []), some (.laload, 0, [], [])],
  [some (.lstore 9, 0, [], []), none, some (.lload 9, 0, [], []), none, some (.lconst 0, 0, [], []), some (.lcmp, 0, [], []), some (.ifCond .lt 12, 0, [114], []), none, none, some (.lload 9, 0, [], []), none, some (.ldc2_w 165, 0, [99], [905]), none, none, some (.lcmp, 0, [], []), some (.ifCond .le 6, 0, [117], [])],
  [none, none, some (.bipush (-2), 0, [], []), none, some (.ireturn, 0, [], []), some (.iinc 8 1, 0, [], []), none, none, some (.goto (-48), 0, [72], []), none, none, some (.iconst 0, 0, [], []), some (.istore 8, 0, [], []), none, some (.iload 6, 0, [], [])],
  [some (.istore 9, 0, [], []), none, some (.iload 9, 0, [], []), none, some (.iload 6, 0, [], []), none, some (.ifCond .ne 7, 0, [141], []), none, none, some (.iconst 5, 0, [], []), some (.goto 5, 0, [143], []), none, none, some (.bipush 21, 0, [], []), none, some (.if_icmp .ge 139, 0, [282], [])],
  [none, none, some (.aload_n 0, 0, [], []), some (.invokevirtual 134, 0, [143, 0, 7, 1, 0], [825, 39, 827, 27]), none, none, some (.aload_n 0, 0, [], []), some (.getfield 26, 0, [7, 8], [644]), none, none, some (.iload 6, 0, [], []), none, some (.ifCond .ne 8, 0, [164], []), none, none, some (.bipush 6, 0, [], [])],
  [none, some (.goto 5, 0, [166], []), none, none, some (.bipush 14, 0, [], []), none, some (.iload_n 1, 0, [], []), some (.iadd, 0, [], []), some (.iload 9, 0, [], []), none, some (.iastore, 0, [], []), some (.iconst 1, 0, [], []), some (.istore 10, 0, [], []), none, some (.iconst 0, 0, [], []), some (.istore 11, 0, [], [])],
  [none, some (.iload 11, 0, [], []), none, some (.iload 5, 0, [], []), none, some (.if_icmp .ge 77, 0, [258], []), none, none, some (.aload_n 0, 0, [], []), some (.getfield 16, 0, [7, 2], [638]), none, none, some (.bipush 24, 0, [], []), none, some (.iload_n 2, 0, [], []), some (.imul, 0, [], [])],
  [some (.iload 4, 0, [], []), none, some (.iadd, 0, [], []), some (.iconst 2, 0, [], []), some (.iload 11, 0, [], []), none, some (.imul, 0, [], []), some (.iadd, 0, [], []), some (.laload, 0, [], []), some (.l2i, 0, [], []), some (.istore 12, 0, [], []), none, some (.iload 10, 0, [], []), none, some (.ifCond .eq 43, 0, [249], [])],
  [none, some (.aload_n 0, 0, [], []), some (.getfield 26, 0, [7, 8], [644]), none, none, some (.iload 12, 0, [], []), none, some (.invokestatic 124, 0, [134, 2, 7, 3, 0], [779, 39, 780]), none, none, some (.invokestatic 140, 0, [108, 1, 7, 3, 0], [849, 39, 850]), none, none, some (.i2l, 0, [], []), some (.aload_n 0, 0, [], []), some (.getfield 16, 0, [7, 2], [638])],
  [none, none, some (.bipush 24, 0, [], []), none, some (.iload_n 2, 0, [], []), some (.imul, 0, [], []), some (.iload 4, 0, [], []), none, some (.iadd, 0, [], []), some (.iconst 2, 0, [], []), some (.iload 11, 0, [], []), none, some (.imul, 0, [], []), some (.iadd, 0, [], []), some (.iconst 1, 0, [], []), some (.iadd, 0, [], [])],
  [some (.laload, 0, [], []), some (.lcmp, 0, [], []), some (.ifCond .ne 7, 0, [249], []), none, none, some (.iconst 1, 0, [], []), some (.goto 4, 0, [250], []), none, none, some (.iconst 0, 0, [], []), some (.istore 10, 0, [], []), none, some (.iinc 11 1, 0, [], []), none, none, some (.goto (-78), 0, [177], [])],
  [none, none, some (.iload 8, 0, [], []), none, some (.iload 10, 0, [], []), none, some (.ifCond .eq 10, 0, [272], []), none, none, some (.iconst 1, 0, [], []), some (.iload 9, 0, [], []), none, some (.ishl, 0, [], []), some (.goto 4, 0, [273], [])],
  [some (.iconst 0, 0, [], []), some (.ior, 0, [], []), some (.istore 8, 0, [], []), none, some (.iinc 9 1, 0, [], []), none, none, some (.goto (-149), 0, [130], []), none, none, some (.iload 8, 0, [], []), none, some (.ireturn, 0, [], [])]])
def km_X7_film : kn_M := (⟨"KnotLawModel", "film", "(IIIII)I"⟩, prog_9_method_61_code, 8, some .int, (4, 89), [
  [some (.iload_n 1, 0, [], []), some (.iconst 0, 0, [], []), some (.bipush 99, 0, [], []), none, some (.invokestatic 42, 0, [106, 3, 7, 3, 0], [684, 39, 685]), none, none, some (.ifCond .eq 30, 0, [37], []), none, none, some (.iload_n 2, 0, [], []), some (.iconst 1, 0, [], []), some (.bipush 24, 0, [], []), none, some (.invokestatic 42, 0, [106, 3, 7, 3, 0], [684, 39, 685])],
  [none, some (.ifCond .eq 20, 0, [37], []), none, none, some (.iload_n 3, 0, [], []), some (.invokestatic 158, 0, [161, 1, 7, 1, 0], [895, 39, 896]), none, none, some (.ifCond .eq 13, 0, [37], []), none, none, some (.iload 4, 0, [], []), none, some (.iconst 0, 0, [], []), some (.iconst 3, 0, [], []), some (.invokestatic 42, 0, [106, 3, 7, 3, 0], [684, 39, 685])],
  [none, none, some (.ifCond .ne 5, 0, [39], []), none, none, some (.iconst (-1), 0, [], []), some (.ireturn, 0, [], []), some (.aload_n 0, 0, [], []), some (.iload_n 3, 0, [], []), some (.iload 4, 0, [], []), none, some (.iload 5, 0, [], []), none, some (.iload_n 2, 0, [], []), some (.invokevirtual 161, 0, [163, 4, 7, 5, 0], [898, 39, 900, 30])],
  [none, some (.istore 6, 0, [], []), none, some (.iload 6, 0, [], []), none, some (.ifCond .eq 6, 0, [59], []), none, none, some (.iload 6, 0, [], []), none, some (.ireturn, 0, [], []), some (.aload_n 0, 0, [], []), some (.invokevirtual 134, 0, [143, 0, 7, 1, 0], [825, 39, 827, 27]), none, none, some (.iconst 0, 0, [], [])],
  [some (.istore 7, 0, [], []), none, some (.iload 7, 0, [], []), none, some (.iload_n 2, 0, [], []), some (.if_icmp .ge 43, 0, [112], []), none, none, some (.aload_n 0, 0, [], []), some (.getfield 26, 0, [7, 8], [644]), none, none, some (.iload_n 1, 0, [], []), some (.invokestatic 124, 0, [134, 2, 7, 3, 0], [779, 39, 780])],
  [some (.pop, 0, [], []), some (.aload_n 0, 0, [], []), some (.getfield 16, 0, [7, 2], [638]), none, none, some (.bipush 24, 0, [], []), none, some (.iload_n 3, 0, [], []), some (.imul, 0, [], []), some (.iload 5, 0, [], []), none, some (.iadd, 0, [], []), some (.iload 7, 0, [], []), none, some (.iadd, 0, [], []), some (.aload_n 0, 0, [], [])],
  [some (.getfield 26, 0, [7, 8], [644]), none, none, some (.iconst 2, 0, [], []), some (.iaload, 0, [], []), some (.invokestatic 140, 0, [108, 1, 7, 3, 0], [849, 39, 850]), none, none, some (.i2l, 0, [], []), some (.lastore, 0, [], []), some (.iinc 7 1, 0, [], []), none, none, some (.goto (-43), 0, [66], [])],
  [some (.iload_n 2, 0, [], []), some (.ireturn, 0, [], [])]])
def km_X7_sheet : kn_M := (⟨"KnotLawModel", "sheet", "(III)I"⟩, prog_9_method_62_code, 5, some .int, (2, 42), [
  [some (.iload_n 1, 0, [], []), some (.invokestatic 158, 0, [161, 1, 7, 1, 0], [895, 39, 896]), none, none, some (.ifCond .eq 18, 0, [22], []), none, none, some (.iload_n 2, 0, [], []), some (.iconst 0, 0, [], []), some (.iconst 3, 0, [], []), some (.invokestatic 42, 0, [106, 3, 7, 3, 0], [684, 39, 685]), none, none, some (.ifCond .eq 9, 0, [22], [])],
  [some (.iload_n 3, 0, [], []), some (.bipush 24, 0, [], []), none, some (.if_icmp .le 5, 0, [24], []), none, none, some (.iconst (-1), 0, [], []), some (.ireturn, 0, [], []), some (.iload_n 3, 0, [], []), some (.ifCond .ge 6, 0, [31], []), none, none, some (.bipush (-14), 0, [], []), none, some (.ireturn, 0, [], []), some (.aload_n 0, 0, [], [])],
  [some (.getfield 7, 0, [7, 0], [636]), none, none, some (.iload_n 1, 0, [], []), some (.iload_n 2, 0, [], []), some (.iastore, 0, [], []), some (.aload_n 0, 0, [], []), some (.getfield 13, 0, [7, 1], [637]), none, none, some (.iload_n 1, 0, [], []), some (.iload_n 3, 0, [], []), some (.iastore, 0, [], []), some (.iconst 0, 0, [], []), some (.istore 4, 0, [], [])],
  [some (.iload 4, 0, [], []), none, some (.bipush 24, 0, [], []), none, some (.if_icmp .ge 22, 0, [74], []), none, none, some (.aload_n 0, 0, [], []), some (.getfield 16, 0, [7, 2], [638]), none, none, some (.bipush 24, 0, [], []), none, some (.iload_n 1, 0, [], []), some (.imul, 0, [], []), some (.iload 4, 0, [], [])],
  [none, some (.iadd, 0, [], []), some (.lconst 0, 0, [], []), some (.lastore, 0, [], []), some (.iinc 4 1, 0, [], []), none, none, some (.goto (-23), 0, [48], []), none, none, some (.iload_n 3, 0, [], []), some (.ireturn, 0, [], [])]])
def km_X7_drop : kn_M := (⟨"KnotLawModel", "drop", "(I)I"⟩, prog_9_method_63_code, 2, some .int, (2, 42), [
  [some (.iload_n 1, 0, [], []), some (.invokestatic 158, 0, [161, 1, 7, 1, 0], [895, 39, 896]), none, none, some (.ifCond .ne 5, 0, [9], []), none, none, some (.iconst (-1), 0, [], []), some (.ireturn, 0, [], []), some (.aload_n 0, 0, [], []), some (.getfield 7, 0, [7, 0], [636]), none, none, some (.iload_n 1, 0, [], []), some (.iaload, 0, [], []), some (.ifCond .ge 6, 0, [21], [])],
  [none, none, some (.bipush (-11), 0, [], []), none, some (.ireturn, 0, [], []), some (.aload_n 0, 0, [], []), some (.getfield 7, 0, [7, 0], [636]), none, none, some (.iload_n 1, 0, [], []), some (.iconst (-1), 0, [], []), some (.iastore, 0, [], []), some (.aload_n 0, 0, [], []), some (.getfield 13, 0, [7, 1], [637])],
  [some (.iload_n 1, 0, [], []), some (.iaload, 0, [], []), some (.ireturn, 0, [], [])]])
def km_X7_item : kn_M := (⟨"KnotLawModel", "item", "(IIIJ)I"⟩, prog_9_method_64_code, 7, some .int, (2, 46), [
  [some (.iload_n 1, 0, [], []), some (.invokestatic 158, 0, [161, 1, 7, 1, 0], [895, 39, 896]), none, none, some (.ifCond .eq 12, 0, [16], []), none, none, some (.iload_n 2, 0, [], []), some (.iconst 0, 0, [], []), some (.iconst 3, 0, [], []), some (.invokestatic 42, 0, [106, 3, 7, 3, 0], [684, 39, 685]), none, none, some (.ifCond .ne 5, 0, [18], [])],
  [some (.iconst (-1), 0, [], []), some (.ireturn, 0, [], []), some (.aload_n 0, 0, [], []), some (.iload_n 1, 0, [], []), some (.iload_n 2, 0, [], []), some (.iload_n 3, 0, [], []), some (.iconst 1, 0, [], []), some (.invokevirtual 161, 0, [163, 4, 7, 5, 0], [898, 39, 900, 30]), none, none, some (.istore 6, 0, [], []), none, some (.iload 6, 0, [], []), none, some (.ifCond .eq 6, 0, [36], [])],
  [none, some (.iload 6, 0, [], []), none, some (.ireturn, 0, [], []), some (.aload_n 0, 0, [], []), some (.getfield 16, 0, [7, 2], [638]), none, none, some (.bipush 24, 0, [], []), none, some (.iload_n 1, 0, [], []), some (.imul, 0, [], []), some (.iload_n 3, 0, [], []), some (.iadd, 0, [], []), some (.iload_n 2, 0, [], []), some (.ifCond .ne 11, 0, [58], [])],
  [none, none, some (.lload 4, 0, [], []), none, some (.l2i, 0, [], []), some (.i2b, 0, [], []), some (.i2l, 0, [], []), some (.goto 30, 0, [85], []), none, none, some (.iload_n 2, 0, [], []), some (.iconst 1, 0, [], []), some (.if_icmp .ne 11, 0, [71], []), none, none, some (.lload 4, 0, [], [])],
  [none, some (.l2i, 0, [], []), some (.i2s, 0, [], []), some (.i2l, 0, [], []), some (.goto 17, 0, [85], []), none, none, some (.iload_n 2, 0, [], []), some (.iconst 2, 0, [], []), some (.if_icmp .ne 10, 0, [83], []), none, none, some (.lload 4, 0, [], []), none, some (.l2i, 0, [], []), some (.i2l, 0, [], [])],
  [some (.goto 5, 0, [85], []), none, none, some (.lload 4, 0, [], []), none, some (.lastore, 0, [], []), some (.iconst 1, 0, [], []), some (.ireturn, 0, [], [])]])
def km_X7_copy : kn_M := (⟨"KnotLawModel", "copy", "(IIIII)I"⟩, prog_9_method_65_code, 9, some .int, (2, 42), [
  [some (.iload_n 1, 0, [], []), some (.invokestatic 158, 0, [161, 1, 7, 1, 0], [895, 39, 896]), none, none, some (.ifCond .eq 10, 0, [14], []), none, none, some (.iload_n 3, 0, [], []), some (.invokestatic 158, 0, [161, 1, 7, 1, 0], [895, 39, 896]), none, none, some (.ifCond .ne 5, 0, [16], []), none, none, some (.iconst (-1), 0, [], []), some (.ireturn, 0, [], [])],
  [some (.aload_n 0, 0, [], []), some (.getfield 7, 0, [7, 0], [636]), none, none, some (.iload_n 1, 0, [], []), some (.iaload, 0, [], []), some (.ifCond .lt 12, 0, [34], []), none, none, some (.aload_n 0, 0, [], []), some (.getfield 7, 0, [7, 0], [636]), none, none, some (.iload_n 3, 0, [], []), some (.iaload, 0, [], []), some (.ifCond .ge 6, 0, [37], [])],
  [none, none, some (.bipush (-11), 0, [], []), none, some (.ireturn, 0, [], []), some (.aload_n 0, 0, [], []), some (.getfield 7, 0, [7, 0], [636]), none, none, some (.iload_n 1, 0, [], []), some (.iaload, 0, [], []), some (.aload_n 0, 0, [], []), some (.getfield 7, 0, [7, 0], [636]), none, none, some (.iload_n 3, 0, [], [])],
  [some (.iaload, 0, [], []), some (.if_icmp .eq 6, 0, [55], []), none, none, some (.bipush (-12), 0, [], []), none, some (.ireturn, 0, [], []), some (.iload_n 2, 0, [], []), some (.iload 5, 0, [], []), none, some (.aload_n 0, 0, [], []), some (.getfield 13, 0, [7, 1], [637]), none, none, some (.iload_n 1, 0, [], []), some (.iaload, 0, [], [])],
  [some (.invokestatic 155, 0, [162, 3, 7, 3, 0], [902, 39, 903]), none, none, some (.ifCond .eq 19, 0, [86], []), none, none, some (.iload 4, 0, [], []), none, some (.iload 5, 0, [], []), none, some (.aload_n 0, 0, [], []), some (.getfield 13, 0, [7, 1], [637]), none, none, some (.iload_n 3, 0, [], []), some (.iaload, 0, [], [])],
  [some (.invokestatic 155, 0, [162, 3, 7, 3, 0], [902, 39, 903]), none, none, some (.ifCond .ne 6, 0, [89], []), none, none, some (.bipush (-13), 0, [], []), none, some (.ireturn, 0, [], []), some (.iload_n 1, 0, [], []), some (.iload_n 3, 0, [], []), some (.if_icmp .ne 13, 0, [104], []), none, none, some (.iload 4, 0, [], [])],
  [some (.iload_n 2, 0, [], []), some (.if_icmp .le 7, 0, [104], []), none, none, some (.iconst 1, 0, [], []), some (.goto 4, 0, [105], []), none, none, some (.iconst 0, 0, [], []), some (.istore 6, 0, [], []), none, some (.iconst 0, 0, [], []), some (.istore 7, 0, [], []), none, some (.iload 7, 0, [], [])],
  [some (.iload 5, 0, [], []), none, some (.if_icmp .ge 57, 0, [171], []), none, none, some (.iload 6, 0, [], []), none, some (.ifCond .eq 13, 0, [132], []), none, none, some (.iload 5, 0, [], []), none, some (.iconst 1, 0, [], []), some (.isub, 0, [], []), some (.iload 7, 0, [], [])],
  [some (.isub, 0, [], []), some (.goto 5, 0, [134], []), none, none, some (.iload 7, 0, [], []), none, some (.istore 8, 0, [], []), none, some (.aload_n 0, 0, [], []), some (.getfield 16, 0, [7, 2], [638]), none, none, some (.bipush 24, 0, [], []), none, some (.iload_n 3, 0, [], []), some (.imul, 0, [], [])],
  [some (.iload 4, 0, [], []), none, some (.iadd, 0, [], []), some (.iload 8, 0, [], []), none, some (.iadd, 0, [], []), some (.aload_n 0, 0, [], []), some (.getfield 16, 0, [7, 2], [638]), none, none, some (.bipush 24, 0, [], []), none, some (.iload_n 1, 0, [], []), some (.imul, 0, [], []), some (.iload_n 2, 0, [], []), some (.iadd, 0, [], [])],
  [some (.iload 8, 0, [], []), none, some (.iadd, 0, [], []), some (.laload, 0, [], []), some (.lastore, 0, [], []), some (.iinc 7 1, 0, [], []), none, none, some (.goto (-58), 0, [110], []), none, none, some (.iload 5, 0, [], []), none, some (.ireturn, 0, [], [])]])
def km_J6_bitCount_0f7a4 : kn_M := (⟨"java/lang/Integer", "bitCount", "(I)I"⟩, prog_10_method_49_code, 1, some .int, (0, 0), [
  [some (.iload_n 0, 0, [], []), some (.iload_n 0, 0, [], []), some (.iconst 1, 0, [], []), some (.iushr, 0, [], []), some (.ldc_w 265, 0, [1431655765], [476]), none, none, some (.iand, 0, [], []), some (.isub, 0, [], []), some (.istore_n 0, 0, [], []), some (.iload_n 0, 0, [], []), some (.ldc_w 266, 0, [858993459], [477]), none, none, some (.iand, 0, [], []), some (.iload_n 0, 0, [], [])],
  [some (.iconst 2, 0, [], []), some (.iushr, 0, [], []), some (.ldc_w 266, 0, [858993459], [477]), none, none, some (.iand, 0, [], []), some (.iadd, 0, [], []), some (.istore_n 0, 0, [], []), some (.iload_n 0, 0, [], []), some (.iload_n 0, 0, [], []), some (.iconst 4, 0, [], []), some (.iushr, 0, [], []), some (.iadd, 0, [], []), some (.ldc_w 267, 0, [252645135], [478])],
  [some (.iand, 0, [], []), some (.istore_n 0, 0, [], []), some (.iload_n 0, 0, [], []), some (.iload_n 0, 0, [], []), some (.bipush 8, 0, [], []), none, some (.iushr, 0, [], []), some (.iadd, 0, [], []), some (.istore_n 0, 0, [], []), some (.iload_n 0, 0, [], []), some (.iload_n 0, 0, [], []), some (.bipush 16, 0, [], []), none, some (.iushr, 0, [], []), some (.iadd, 0, [], []), some (.istore_n 0, 0, [], [])],
  [some (.iload_n 0, 0, [], []), some (.bipush 63, 0, [], []), none, some (.iand, 0, [], []), some (.ireturn, 0, [], [])]])
def km_law : kn_M := (⟨"KnotLawLaw", "law", "([I)Z"⟩, code, 4, some .boolean, (7, 153), [
  [some (.new 7, 0, [6, 6, 3, 3, 3, 3, 3, 2], [43, 44, 32]), none, none, some (.dup, 0, [], []), some (.invokespecial 9, 0, [55, 0, 6, 1, 0], [45, 32, 46]), none, none, some (.astore_n 1, 0, [], []), some (.new 10, 0, [7, 14, 3, 3, 3, 0, 3, 0, 0, 3, 3, 3, 3, 2, 3, 3], [630, 631, 39]), none, none, some (.dup, 0, [], []), some (.invokespecial 12, 0, [105, 0, 7, 2, 0], [632, 39, 633]), none, none, some (.astore_n 2, 0, [], [])],
  [some (.iconst 0, 0, [], []), some (.istore_n 3, 0, [], []), some (.iload_n 3, 0, [], []), some (.aload_n 0, 0, [], []), some (.arraylength, 0, [], []), some (.bipush 7, 0, [], []), none, some (.isub, 0, [], []), some (.if_icmp .gt 1317, 0, [1341], []), none, none, some (.aload_n 0, 0, [], []), some (.iload_n 3, 0, [], []), some (.iaload, 0, [], []), some (.bipush 63, 0, [], [])],
  [some (.iand, 0, [], []), some (.tableswitch 1302 0 34 #[155, 208, 241, 274, 307, 330, 343, 366, 389, 412, 435, 458, 481, 504, 517, 540, 563, 596, 629, 652, 665, 698, 721, 764, 797, 840, 873, 926, 939, 952, 1027, 1090, 1133, 1156, 1239], 155, [1335, 188, 241, 274, 307, 340, 363, 376, 399, 422, 445, 468, 491, 514, 537, 550, 573, 596, 629, 662, 685, 698, 731, 754, 797, 830, 873, 906, 959, 972, 985, 1060, 1123, 1166, 1189, 1272], [])],
  [],
  [],
  [],
  [],
  [],
  [],
  [],
  [],
  [none, none, none, none, none, none, none, none, none, none, none, none, some (.aload_n 1, 0, [], []), some (.aload_n 0, 0, [], []), some (.iload_n 3, 0, [], []), some (.iconst 1, 0, [], [])],
  [some (.iadd, 0, [], []), some (.iaload, 0, [], []), some (.aload_n 0, 0, [], []), some (.iload_n 3, 0, [], []), some (.iconst 2, 0, [], []), some (.iadd, 0, [], []), some (.iaload, 0, [], []), some (.aload_n 0, 0, [], []), some (.iload_n 3, 0, [], []), some (.iconst 3, 0, [], []), some (.iadd, 0, [], []), some (.iaload, 0, [], []), some (.aload_n 0, 0, [], []), some (.iload_n 3, 0, [], []), some (.iconst 4, 0, [], []), some (.iadd, 0, [], [])],
  [some (.iaload, 0, [], []), some (.invokevirtual 13, 0, [56, 4, 6, 5, 0], [216, 32, 217, 218]), none, none, some (.aload_n 2, 0, [], []), some (.aload_n 0, 0, [], []), some (.iload_n 3, 0, [], []), some (.iconst 1, 0, [], []), some (.iadd, 0, [], []), some (.iaload, 0, [], []), some (.aload_n 0, 0, [], []), some (.iload_n 3, 0, [], []), some (.iconst 2, 0, [], []), some (.iadd, 0, [], []), some (.iaload, 0, [], []), some (.aload_n 0, 0, [], [])],
  [some (.iload_n 3, 0, [], []), some (.iconst 3, 0, [], []), some (.iadd, 0, [], []), some (.iaload, 0, [], []), some (.aload_n 0, 0, [], []), some (.iload_n 3, 0, [], []), some (.iconst 4, 0, [], []), some (.iadd, 0, [], []), some (.iaload, 0, [], []), some (.invokevirtual 17, 0, [112, 4, 7, 5, 0], [680, 39, 681, 682]), none, none, some (.if_icmp .eq 1099, 0, [1335], []), none, none, some (.iconst 0, 0, [], [])],
  [some (.ireturn, 0, [], []), some (.aload_n 1, 0, [], []), some (.aload_n 0, 0, [], []), some (.iload_n 3, 0, [], []), some (.iconst 1, 0, [], []), some (.iadd, 0, [], []), some (.iaload, 0, [], []), some (.aload_n 0, 0, [], []), some (.iload_n 3, 0, [], []), some (.iconst 2, 0, [], []), some (.iadd, 0, [], []), some (.iaload, 0, [], []), some (.invokevirtual 18, 0, [57, 2, 6, 3, 0], [234, 32, 235, 236]), none, none, some (.aload_n 2, 0, [], [])],
  [some (.aload_n 0, 0, [], []), some (.iload_n 3, 0, [], []), some (.iconst 1, 0, [], []), some (.iadd, 0, [], []), some (.iaload, 0, [], []), some (.aload_n 0, 0, [], []), some (.iload_n 3, 0, [], []), some (.iconst 2, 0, [], []), some (.iadd, 0, [], []), some (.iaload, 0, [], []), some (.invokevirtual 22, 0, [116, 2, 7, 3, 0], [690, 39, 691, 692]), none, none, some (.if_icmp .eq 1066, 0, [1335], [])],
  [some (.iconst 0, 0, [], []), some (.ireturn, 0, [], []), some (.aload_n 1, 0, [], []), some (.aload_n 0, 0, [], []), some (.iload_n 3, 0, [], []), some (.iconst 1, 0, [], []), some (.iadd, 0, [], []), some (.iaload, 0, [], []), some (.aload_n 0, 0, [], []), some (.iload_n 3, 0, [], []), some (.iconst 2, 0, [], []), some (.iadd, 0, [], []), some (.iaload, 0, [], []), some (.invokevirtual 23, 0, [58, 2, 6, 4, 0], [262, 32, 263, 264])],
  [some (.aload_n 2, 0, [], []), some (.aload_n 0, 0, [], []), some (.iload_n 3, 0, [], []), some (.iconst 1, 0, [], []), some (.iadd, 0, [], []), some (.iaload, 0, [], []), some (.aload_n 0, 0, [], []), some (.iload_n 3, 0, [], []), some (.iconst 2, 0, [], []), some (.iadd, 0, [], []), some (.iaload, 0, [], []), some (.invokevirtual 26, 0, [118, 2, 7, 3, 0], [710, 39, 711, 712]), none, none, some (.if_icmp .eq 1033, 0, [1335], [])],
  [none, some (.iconst 0, 0, [], []), some (.ireturn, 0, [], []), some (.aload_n 1, 0, [], []), some (.aload_n 0, 0, [], []), some (.iload_n 3, 0, [], []), some (.iconst 1, 0, [], []), some (.iadd, 0, [], []), some (.iaload, 0, [], []), some (.aload_n 0, 0, [], []), some (.iload_n 3, 0, [], []), some (.iconst 2, 0, [], []), some (.iadd, 0, [], []), some (.iaload, 0, [], []), some (.invokevirtual 27, 0, [59, 2, 6, 4, 0], [270, 32, 271, 272])],
  [none, some (.aload_n 2, 0, [], []), some (.aload_n 0, 0, [], []), some (.iload_n 3, 0, [], []), some (.iconst 1, 0, [], []), some (.iadd, 0, [], []), some (.iaload, 0, [], []), some (.aload_n 0, 0, [], []), some (.iload_n 3, 0, [], []), some (.iconst 2, 0, [], []), some (.iadd, 0, [], []), some (.iaload, 0, [], []), some (.invokevirtual 30, 0, [119, 2, 7, 4, 0], [718, 39, 719, 720]), none, none, some (.if_icmp .eq 1000, 0, [1335], [])],
  [none, none, some (.iconst 0, 0, [], []), some (.ireturn, 0, [], []), some (.aload_n 1, 0, [], []), some (.aload_n 0, 0, [], []), some (.iload_n 3, 0, [], []), some (.iconst 1, 0, [], []), some (.iadd, 0, [], []), some (.iaload, 0, [], []), some (.invokevirtual 31, 0, [60, 1, 6, 2, 0], [274, 32, 275, 276]), none, none, some (.aload_n 2, 0, [], []), some (.aload_n 0, 0, [], []), some (.iload_n 3, 0, [], [])],
  [some (.iconst 1, 0, [], []), some (.iadd, 0, [], []), some (.iaload, 0, [], []), some (.invokevirtual 35, 0, [120, 1, 7, 2, 0], [722, 39, 723, 724]), none, none, some (.if_icmp .eq 977, 0, [1335], []), none, none, some (.iconst 0, 0, [], []), some (.ireturn, 0, [], []), some (.aload_n 1, 0, [], []), some (.invokevirtual 36, 0, [61, 0, 6, 2, 0], [282, 32, 283, 284]), none, none, some (.aload_n 2, 0, [], [])],
  [some (.invokevirtual 40, 0, [128, 0, 7, 2, 0], [726, 39, 727, 728]), none, none, some (.if_icmp .eq 964, 0, [1335], []), none, none, some (.iconst 0, 0, [], []), some (.ireturn, 0, [], []), some (.aload_n 1, 0, [], []), some (.aload_n 0, 0, [], []), some (.iload_n 3, 0, [], []), some (.iconst 1, 0, [], []), some (.iadd, 0, [], []), some (.iaload, 0, [], []), some (.invokevirtual 41, 0, [62, 1, 6, 2, 0], [334, 32, 335, 336])],
  [none, some (.aload_n 2, 0, [], []), some (.aload_n 0, 0, [], []), some (.iload_n 3, 0, [], []), some (.iconst 1, 0, [], []), some (.iadd, 0, [], []), some (.iaload, 0, [], []), some (.invokevirtual 44, 0, [131, 1, 7, 2, 0], [760, 39, 761, 762]), none, none, some (.if_icmp .eq 941, 0, [1335], []), none, none, some (.iconst 0, 0, [], []), some (.ireturn, 0, [], []), some (.aload_n 1, 0, [], [])],
  [some (.aload_n 0, 0, [], []), some (.iload_n 3, 0, [], []), some (.iconst 1, 0, [], []), some (.iadd, 0, [], []), some (.iaload, 0, [], []), some (.invokevirtual 45, 0, [63, 1, 6, 2, 0], [343, 32, 344, 345]), none, none, some (.aload_n 2, 0, [], []), some (.aload_n 0, 0, [], []), some (.iload_n 3, 0, [], []), some (.iconst 1, 0, [], []), some (.iadd, 0, [], []), some (.iaload, 0, [], []), some (.invokevirtual 48, 0, [135, 1, 7, 2, 0], [771, 39, 772, 773])],
  [none, some (.if_icmp .eq 918, 0, [1335], []), none, none, some (.iconst 0, 0, [], []), some (.ireturn, 0, [], []), some (.aload_n 1, 0, [], []), some (.aload_n 0, 0, [], []), some (.iload_n 3, 0, [], []), some (.iconst 1, 0, [], []), some (.iadd, 0, [], []), some (.iaload, 0, [], []), some (.invokevirtual 49, 0, [64, 1, 6, 2, 0], [373, 32, 374, 375]), none, none, some (.aload_n 2, 0, [], [])],
  [some (.aload_n 0, 0, [], []), some (.iload_n 3, 0, [], []), some (.iconst 1, 0, [], []), some (.iadd, 0, [], []), some (.iaload, 0, [], []), some (.invokevirtual 52, 0, [136, 1, 7, 2, 0], [785, 39, 786, 787]), none, none, some (.if_icmp .eq 895, 0, [1335], []), none, none, some (.iconst 0, 0, [], []), some (.ireturn, 0, [], []), some (.aload_n 1, 0, [], []), some (.aload_n 0, 0, [], []), some (.iload_n 3, 0, [], [])],
  [some (.iconst 1, 0, [], []), some (.iadd, 0, [], []), some (.iaload, 0, [], []), some (.invokevirtual 53, 0, [65, 1, 6, 2, 0], [377, 32, 378, 379]), none, none, some (.aload_n 2, 0, [], []), some (.aload_n 0, 0, [], []), some (.iload_n 3, 0, [], []), some (.iconst 1, 0, [], []), some (.iadd, 0, [], []), some (.iaload, 0, [], []), some (.invokevirtual 56, 0, [137, 1, 7, 2, 0], [789, 39, 790, 791]), none, none, some (.if_icmp .eq 872, 0, [1335], [])],
  [none, none, some (.iconst 0, 0, [], []), some (.ireturn, 0, [], []), some (.aload_n 1, 0, [], []), some (.aload_n 0, 0, [], []), some (.iload_n 3, 0, [], []), some (.iconst 1, 0, [], []), some (.iadd, 0, [], []), some (.iaload, 0, [], []), some (.invokevirtual 57, 0, [66, 1, 6, 2, 0], [381, 32, 382, 383]), none, none, some (.aload_n 2, 0, [], []), some (.aload_n 0, 0, [], []), some (.iload_n 3, 0, [], [])],
  [some (.iconst 1, 0, [], []), some (.iadd, 0, [], []), some (.iaload, 0, [], []), some (.invokevirtual 60, 0, [138, 1, 7, 4, 0], [793, 39, 794, 795]), none, none, some (.if_icmp .eq 849, 0, [1335], []), none, none, some (.iconst 0, 0, [], []), some (.ireturn, 0, [], []), some (.aload_n 1, 0, [], []), some (.aload_n 0, 0, [], []), some (.iload_n 3, 0, [], []), some (.iconst 1, 0, [], []), some (.iadd, 0, [], [])],
  [some (.iaload, 0, [], []), some (.invokevirtual 61, 0, [67, 1, 6, 2, 0], [389, 32, 390, 391]), none, none, some (.aload_n 2, 0, [], []), some (.aload_n 0, 0, [], []), some (.iload_n 3, 0, [], []), some (.iconst 1, 0, [], []), some (.iadd, 0, [], []), some (.iaload, 0, [], []), some (.invokevirtual 64, 0, [139, 1, 7, 2, 0], [797, 39, 798, 799]), none, none, some (.if_icmp .eq 826, 0, [1335], [])],
  [some (.iconst 0, 0, [], []), some (.ireturn, 0, [], []), some (.aload_n 1, 0, [], []), some (.aload_n 0, 0, [], []), some (.iload_n 3, 0, [], []), some (.iconst 1, 0, [], []), some (.iadd, 0, [], []), some (.iaload, 0, [], []), some (.invokevirtual 65, 0, [68, 1, 6, 3, 0], [393, 32, 394, 395]), none, none, some (.aload_n 2, 0, [], []), some (.aload_n 0, 0, [], []), some (.iload_n 3, 0, [], []), some (.iconst 1, 0, [], []), some (.iadd, 0, [], [])],
  [some (.iaload, 0, [], []), some (.invokevirtual 68, 0, [140, 1, 7, 3, 0], [801, 39, 802, 803]), none, none, some (.if_icmp .eq 803, 0, [1335], []), none, none, some (.iconst 0, 0, [], []), some (.ireturn, 0, [], []), some (.aload_n 1, 0, [], []), some (.invokevirtual 69, 0, [69, 0, 6, 1, 0], [405, 32, 406, 407]), none, none, some (.aload_n 2, 0, [], []), some (.invokevirtual 72, 0, [141, 0, 7, 1, 0], [809, 39, 810, 811])],
  [none, some (.if_icmp .eq 790, 0, [1335], []), none, none, some (.iconst 0, 0, [], []), some (.ireturn, 0, [], []), some (.aload_n 1, 0, [], []), some (.aload_n 0, 0, [], []), some (.iload_n 3, 0, [], []), some (.iconst 1, 0, [], []), some (.iadd, 0, [], []), some (.iaload, 0, [], []), some (.invokevirtual 73, 0, [70, 1, 6, 3, 0], [413, 32, 414, 415]), none, none, some (.aload_n 2, 0, [], [])],
  [some (.aload_n 0, 0, [], []), some (.iload_n 3, 0, [], []), some (.iconst 1, 0, [], []), some (.iadd, 0, [], []), some (.iaload, 0, [], []), some (.invokevirtual 76, 0, [142, 1, 7, 3, 0], [813, 39, 814, 815]), none, none, some (.if_icmp .eq 767, 0, [1335], []), none, none, some (.iconst 0, 0, [], []), some (.ireturn, 0, [], []), some (.aload_n 1, 0, [], []), some (.aload_n 0, 0, [], []), some (.iload_n 3, 0, [], [])],
  [some (.iconst 1, 0, [], []), some (.iadd, 0, [], []), some (.iaload, 0, [], []), some (.invokevirtual 77, 0, [71, 1, 6, 2, 0], [417, 32, 418, 419]), none, none, some (.aload_n 2, 0, [], []), some (.aload_n 0, 0, [], []), some (.iload_n 3, 0, [], []), some (.iconst 1, 0, [], []), some (.iadd, 0, [], []), some (.iaload, 0, [], []), some (.invokevirtual 80, 0, [144, 1, 7, 2, 0], [817, 39, 818, 819]), none, none, some (.if_icmp .eq 744, 0, [1335], [])],
  [none, none, some (.iconst 0, 0, [], []), some (.ireturn, 0, [], []), some (.aload_n 1, 0, [], []), some (.aload_n 0, 0, [], []), some (.iload_n 3, 0, [], []), some (.iconst 1, 0, [], []), some (.iadd, 0, [], []), some (.iaload, 0, [], []), some (.aload_n 0, 0, [], []), some (.iload_n 3, 0, [], []), some (.iconst 2, 0, [], []), some (.iadd, 0, [], []), some (.iaload, 0, [], []), some (.invokevirtual 81, 0, [72, 2, 6, 3, 0], [423, 32, 424, 425])],
  [none, none, some (.aload_n 2, 0, [], []), some (.aload_n 0, 0, [], []), some (.iload_n 3, 0, [], []), some (.iconst 1, 0, [], []), some (.iadd, 0, [], []), some (.iaload, 0, [], []), some (.aload_n 0, 0, [], []), some (.iload_n 3, 0, [], []), some (.iconst 2, 0, [], []), some (.iadd, 0, [], []), some (.iaload, 0, [], []), some (.invokevirtual 84, 0, [145, 2, 7, 4, 0], [821, 39, 822, 823])],
  [some (.if_icmp .eq 711, 0, [1335], []), none, none, some (.iconst 0, 0, [], []), some (.ireturn, 0, [], []), some (.aload_n 1, 0, [], []), some (.aload_n 0, 0, [], []), some (.iload_n 3, 0, [], []), some (.iconst 1, 0, [], []), some (.iadd, 0, [], []), some (.iaload, 0, [], []), some (.aload_n 0, 0, [], []), some (.iload_n 3, 0, [], []), some (.iconst 2, 0, [], []), some (.iadd, 0, [], []), some (.iaload, 0, [], [])],
  [some (.invokevirtual 85, 0, [73, 2, 6, 4, 0], [452, 32, 453, 454]), none, none, some (.aload_n 2, 0, [], []), some (.aload_n 0, 0, [], []), some (.iload_n 3, 0, [], []), some (.iconst 1, 0, [], []), some (.iadd, 0, [], []), some (.iaload, 0, [], []), some (.aload_n 0, 0, [], []), some (.iload_n 3, 0, [], []), some (.iconst 2, 0, [], []), some (.iadd, 0, [], []), some (.iaload, 0, [], []), some (.invokevirtual 88, 0, [146, 2, 7, 5, 0], [829, 39, 830, 831])],
  [none, some (.if_icmp .eq 678, 0, [1335], []), none, none, some (.iconst 0, 0, [], []), some (.ireturn, 0, [], []), some (.aload_n 1, 0, [], []), some (.aload_n 0, 0, [], []), some (.iload_n 3, 0, [], []), some (.iconst 1, 0, [], []), some (.iadd, 0, [], []), some (.iaload, 0, [], []), some (.invokevirtual 89, 0, [74, 1, 6, 2, 0], [456, 32, 457, 458]), none, none, some (.aload_n 2, 0, [], [])],
  [some (.aload_n 0, 0, [], []), some (.iload_n 3, 0, [], []), some (.iconst 1, 0, [], []), some (.iadd, 0, [], []), some (.iaload, 0, [], []), some (.invokevirtual 92, 0, [148, 1, 7, 2, 0], [833, 39, 834, 835]), none, none, some (.if_icmp .eq 655, 0, [1335], []), none, none, some (.iconst 0, 0, [], []), some (.ireturn, 0, [], []), some (.aload_n 1, 0, [], []), some (.invokevirtual 93, 0, [75, 0, 6, 1, 0], [461, 32, 462, 463])],
  [none, some (.aload_n 2, 0, [], []), some (.invokevirtual 96, 0, [149, 0, 7, 5, 0], [841, 39, 842, 843]), none, none, some (.if_icmp .eq 642, 0, [1335], []), none, none, some (.iconst 0, 0, [], []), some (.ireturn, 0, [], []), some (.aload_n 1, 0, [], []), some (.aload_n 0, 0, [], []), some (.iload_n 3, 0, [], []), some (.iconst 1, 0, [], []), some (.iadd, 0, [], []), some (.iaload, 0, [], [])],
  [some (.aload_n 0, 0, [], []), some (.iload_n 3, 0, [], []), some (.iconst 2, 0, [], []), some (.iadd, 0, [], []), some (.iaload, 0, [], []), some (.invokevirtual 97, 0, [76, 2, 6, 4, 0], [469, 32, 470, 471]), none, none, some (.aload_n 2, 0, [], []), some (.aload_n 0, 0, [], []), some (.iload_n 3, 0, [], []), some (.iconst 1, 0, [], []), some (.iadd, 0, [], []), some (.iaload, 0, [], []), some (.aload_n 0, 0, [], []), some (.iload_n 3, 0, [], [])],
  [some (.iconst 2, 0, [], []), some (.iadd, 0, [], []), some (.iaload, 0, [], []), some (.invokevirtual 100, 0, [150, 2, 7, 4, 0], [845, 39, 846, 847]), none, none, some (.if_icmp .eq 609, 0, [1335], []), none, none, some (.iconst 0, 0, [], []), some (.ireturn, 0, [], []), some (.aload_n 1, 0, [], []), some (.aload_n 0, 0, [], []), some (.iload_n 3, 0, [], []), some (.iconst 1, 0, [], []), some (.iadd, 0, [], [])],
  [some (.iaload, 0, [], []), some (.invokevirtual 101, 0, [77, 1, 6, 2, 0], [479, 32, 480, 481]), none, none, some (.aload_n 2, 0, [], []), some (.aload_n 0, 0, [], []), some (.iload_n 3, 0, [], []), some (.iconst 1, 0, [], []), some (.iadd, 0, [], []), some (.iaload, 0, [], []), some (.invokevirtual 104, 0, [152, 1, 7, 5, 0], [852, 39, 853, 854]), none, none, some (.if_icmp .eq 586, 0, [1335], [])],
  [some (.iconst 0, 0, [], []), some (.ireturn, 0, [], []), some (.aload_n 1, 0, [], []), some (.aload_n 0, 0, [], []), some (.iload_n 3, 0, [], []), some (.iconst 1, 0, [], []), some (.iadd, 0, [], []), some (.iaload, 0, [], []), some (.aload_n 0, 0, [], []), some (.iload_n 3, 0, [], []), some (.iconst 2, 0, [], []), some (.iadd, 0, [], []), some (.iaload, 0, [], []), some (.aload_n 0, 0, [], []), some (.iload_n 3, 0, [], []), some (.iconst 3, 0, [], [])],
  [some (.iadd, 0, [], []), some (.iaload, 0, [], []), some (.invokevirtual 105, 0, [78, 3, 6, 4, 0], [502, 32, 503, 504]), none, none, some (.aload_n 2, 0, [], []), some (.aload_n 0, 0, [], []), some (.iload_n 3, 0, [], []), some (.iconst 1, 0, [], []), some (.iadd, 0, [], []), some (.iaload, 0, [], []), some (.aload_n 0, 0, [], []), some (.iload_n 3, 0, [], []), some (.iconst 2, 0, [], []), some (.iadd, 0, [], []), some (.iaload, 0, [], [])],
  [some (.aload_n 0, 0, [], []), some (.iload_n 3, 0, [], []), some (.iconst 3, 0, [], []), some (.iadd, 0, [], []), some (.iaload, 0, [], []), some (.invokevirtual 109, 0, [154, 3, 7, 5, 0], [860, 39, 861, 862]), none, none, some (.if_icmp .eq 543, 0, [1335], []), none, none, some (.iconst 0, 0, [], []), some (.ireturn, 0, [], []), some (.aload_n 1, 0, [], []), some (.aload_n 0, 0, [], []), some (.iload_n 3, 0, [], [])],
  [some (.iconst 1, 0, [], []), some (.iadd, 0, [], []), some (.iaload, 0, [], []), some (.aload_n 0, 0, [], []), some (.iload_n 3, 0, [], []), some (.iconst 2, 0, [], []), some (.iadd, 0, [], []), some (.iaload, 0, [], []), some (.invokevirtual 110, 0, [79, 2, 6, 4, 0], [510, 32, 511, 512]), none, none, some (.aload_n 2, 0, [], []), some (.aload_n 0, 0, [], []), some (.iload_n 3, 0, [], []), some (.iconst 1, 0, [], []), some (.iadd, 0, [], [])],
  [some (.iaload, 0, [], []), some (.aload_n 0, 0, [], []), some (.iload_n 3, 0, [], []), some (.iconst 2, 0, [], []), some (.iadd, 0, [], []), some (.iaload, 0, [], []), some (.invokevirtual 113, 0, [155, 2, 7, 6, 0], [867, 39, 868, 869]), none, none, some (.if_icmp .eq 510, 0, [1335], []), none, none, some (.iconst 0, 0, [], []), some (.ireturn, 0, [], []), some (.aload_n 1, 0, [], []), some (.aload_n 0, 0, [], [])],
  [some (.iload_n 3, 0, [], []), some (.iconst 1, 0, [], []), some (.iadd, 0, [], []), some (.iaload, 0, [], []), some (.aload_n 0, 0, [], []), some (.iload_n 3, 0, [], []), some (.iconst 2, 0, [], []), some (.iadd, 0, [], []), some (.iaload, 0, [], []), some (.aload_n 0, 0, [], []), some (.iload_n 3, 0, [], []), some (.iconst 3, 0, [], []), some (.iadd, 0, [], []), some (.iaload, 0, [], []), some (.invokevirtual 114, 0, [80, 3, 6, 5, 0], [514, 32, 515, 516])],
  [none, some (.aload_n 2, 0, [], []), some (.aload_n 0, 0, [], []), some (.iload_n 3, 0, [], []), some (.iconst 1, 0, [], []), some (.iadd, 0, [], []), some (.iaload, 0, [], []), some (.aload_n 0, 0, [], []), some (.iload_n 3, 0, [], []), some (.iconst 2, 0, [], []), some (.iadd, 0, [], []), some (.iaload, 0, [], []), some (.aload_n 0, 0, [], []), some (.iload_n 3, 0, [], []), some (.iconst 3, 0, [], []), some (.iadd, 0, [], [])],
  [some (.iaload, 0, [], []), some (.invokevirtual 117, 0, [156, 3, 7, 7, 0], [871, 39, 872, 873]), none, none, some (.if_icmp .eq 467, 0, [1335], []), none, none, some (.iconst 0, 0, [], []), some (.ireturn, 0, [], []), some (.aload_n 1, 0, [], []), some (.aload_n 0, 0, [], []), some (.iload_n 3, 0, [], []), some (.iconst 1, 0, [], []), some (.iadd, 0, [], []), some (.iaload, 0, [], []), some (.aload_n 0, 0, [], [])],
  [some (.iload_n 3, 0, [], []), some (.iconst 2, 0, [], []), some (.iadd, 0, [], []), some (.iaload, 0, [], []), some (.invokevirtual 118, 0, [81, 2, 6, 4, 0], [518, 32, 519, 520]), none, none, some (.aload_n 2, 0, [], []), some (.aload_n 0, 0, [], []), some (.iload_n 3, 0, [], []), some (.iconst 1, 0, [], []), some (.iadd, 0, [], []), some (.iaload, 0, [], []), some (.aload_n 0, 0, [], []), some (.iload_n 3, 0, [], []), some (.iconst 2, 0, [], [])],
  [some (.iadd, 0, [], []), some (.iaload, 0, [], []), some (.invokevirtual 121, 0, [157, 2, 7, 4, 0], [875, 39, 876, 877]), none, none, some (.if_icmp .eq 434, 0, [1335], []), none, none, some (.iconst 0, 0, [], []), some (.ireturn, 0, [], []), some (.aload_n 1, 0, [], []), some (.aload_n 0, 0, [], []), some (.iload_n 3, 0, [], []), some (.iconst 1, 0, [], []), some (.iadd, 0, [], []), some (.iaload, 0, [], [])],
  [some (.aload_n 0, 0, [], []), some (.iload_n 3, 0, [], []), some (.iconst 2, 0, [], []), some (.iadd, 0, [], []), some (.iaload, 0, [], []), some (.aload_n 0, 0, [], []), some (.iload_n 3, 0, [], []), some (.iconst 3, 0, [], []), some (.iadd, 0, [], []), some (.iaload, 0, [], []), some (.aload_n 0, 0, [], []), some (.iload_n 3, 0, [], []), some (.iconst 4, 0, [], []), some (.iadd, 0, [], []), some (.iaload, 0, [], []), some (.invokevirtual 122, 0, [82, 4, 6, 9, 0], [523, 32, 524, 525])],
  [none, none, some (.aload_n 2, 0, [], []), some (.aload_n 0, 0, [], []), some (.iload_n 3, 0, [], []), some (.iconst 1, 0, [], []), some (.iadd, 0, [], []), some (.iaload, 0, [], []), some (.aload_n 0, 0, [], []), some (.iload_n 3, 0, [], []), some (.iconst 2, 0, [], []), some (.iadd, 0, [], []), some (.iaload, 0, [], []), some (.aload_n 0, 0, [], []), some (.iload_n 3, 0, [], []), some (.iconst 3, 0, [], [])],
  [some (.iadd, 0, [], []), some (.iaload, 0, [], []), some (.aload_n 0, 0, [], []), some (.iload_n 3, 0, [], []), some (.iconst 4, 0, [], []), some (.iadd, 0, [], []), some (.iaload, 0, [], []), some (.invokevirtual 125, 0, [158, 4, 7, 10, 0], [879, 39, 880, 881]), none, none, some (.if_icmp .eq 381, 0, [1335], []), none, none, some (.iconst 0, 0, [], []), some (.ireturn, 0, [], []), some (.aload_n 1, 0, [], [])],
  [some (.invokevirtual 126, 0, [83, 0, 6, 1, 0], [533, 32, 534, 535]), none, none, some (.aload_n 2, 0, [], []), some (.invokevirtual 129, 0, [159, 0, 7, 1, 0], [883, 39, 884, 885]), none, none, some (.if_icmp .eq 368, 0, [1335], []), none, none, some (.iconst 0, 0, [], []), some (.ireturn, 0, [], []), some (.aload_n 1, 0, [], []), some (.invokevirtual 130, 0, [84, 0, 6, 1, 0], [545, 32, 546, 547])],
  [some (.aload_n 2, 0, [], []), some (.invokevirtual 133, 0, [160, 0, 7, 1, 0], [887, 39, 888, 889]), none, none, some (.if_icmp .eq 355, 0, [1335], []), none, none, some (.iconst 0, 0, [], []), some (.ireturn, 0, [], []), some (.aload_n 1, 0, [], []), some (.aload_n 0, 0, [], []), some (.iload_n 3, 0, [], []), some (.iconst 1, 0, [], []), some (.iadd, 0, [], []), some (.iaload, 0, [], []), some (.aload_n 0, 0, [], [])],
  [some (.iload_n 3, 0, [], []), some (.iconst 2, 0, [], []), some (.iadd, 0, [], []), some (.iaload, 0, [], []), some (.aload_n 0, 0, [], []), some (.iload_n 3, 0, [], []), some (.iconst 3, 0, [], []), some (.iadd, 0, [], []), some (.iaload, 0, [], []), some (.aload_n 0, 0, [], []), some (.iload_n 3, 0, [], []), some (.iconst 4, 0, [], []), some (.iadd, 0, [], []), some (.iaload, 0, [], []), some (.aload_n 0, 0, [], []), some (.iload_n 3, 0, [], [])],
  [some (.iconst 5, 0, [], []), some (.iadd, 0, [], []), some (.iaload, 0, [], []), some (.aload_n 0, 0, [], []), some (.iload_n 3, 0, [], []), some (.bipush 6, 0, [], []), none, some (.iadd, 0, [], []), some (.iaload, 0, [], []), some (.invokevirtual 134, 0, [85, 6, 6, 8, 0], [549, 32, 550, 551]), none, none, some (.aload_n 2, 0, [], []), some (.aload_n 0, 0, [], []), some (.iload_n 3, 0, [], []), some (.iconst 1, 0, [], [])],
  [some (.iadd, 0, [], []), some (.iaload, 0, [], []), some (.aload_n 0, 0, [], []), some (.iload_n 3, 0, [], []), some (.iconst 2, 0, [], []), some (.iadd, 0, [], []), some (.iaload, 0, [], []), some (.aload_n 0, 0, [], []), some (.iload_n 3, 0, [], []), some (.iconst 3, 0, [], []), some (.iadd, 0, [], []), some (.iaload, 0, [], []), some (.aload_n 0, 0, [], []), some (.iload_n 3, 0, [], []), some (.iconst 4, 0, [], []), some (.iadd, 0, [], [])],
  [some (.iaload, 0, [], []), some (.aload_n 0, 0, [], []), some (.iload_n 3, 0, [], []), some (.iconst 5, 0, [], []), some (.iadd, 0, [], []), some (.iaload, 0, [], []), some (.aload_n 0, 0, [], []), some (.iload_n 3, 0, [], []), some (.bipush 6, 0, [], []), none, some (.iadd, 0, [], []), some (.iaload, 0, [], []), some (.invokevirtual 138, 0, [164, 6, 7, 13, 0], [891, 39, 892, 893]), none, none, some (.if_icmp .eq 280, 0, [1335], [])],
  [none, none, some (.iconst 0, 0, [], []), some (.ireturn, 0, [], []), some (.aload_n 1, 0, [], []), some (.aload_n 0, 0, [], []), some (.iload_n 3, 0, [], []), some (.iconst 1, 0, [], []), some (.iadd, 0, [], []), some (.iaload, 0, [], []), some (.aload_n 0, 0, [], []), some (.iload_n 3, 0, [], []), some (.iconst 2, 0, [], []), some (.iadd, 0, [], []), some (.iaload, 0, [], []), some (.aload_n 0, 0, [], [])],
  [some (.iload_n 3, 0, [], []), some (.iconst 3, 0, [], []), some (.iadd, 0, [], []), some (.iaload, 0, [], []), some (.aload_n 0, 0, [], []), some (.iload_n 3, 0, [], []), some (.iconst 4, 0, [], []), some (.iadd, 0, [], []), some (.iaload, 0, [], []), some (.aload_n 0, 0, [], []), some (.iload_n 3, 0, [], []), some (.iconst 5, 0, [], []), some (.iadd, 0, [], []), some (.iaload, 0, [], []), some (.invokevirtual 139, 0, [86, 5, 6, 9, 0], [589, 32, 590, 591])],
  [none, some (.aload_n 2, 0, [], []), some (.aload_n 0, 0, [], []), some (.iload_n 3, 0, [], []), some (.iconst 1, 0, [], []), some (.iadd, 0, [], []), some (.iaload, 0, [], []), some (.aload_n 0, 0, [], []), some (.iload_n 3, 0, [], []), some (.iconst 2, 0, [], []), some (.iadd, 0, [], []), some (.iaload, 0, [], []), some (.aload_n 0, 0, [], []), some (.iload_n 3, 0, [], []), some (.iconst 3, 0, [], []), some (.iadd, 0, [], [])],
  [some (.iaload, 0, [], []), some (.aload_n 0, 0, [], []), some (.iload_n 3, 0, [], []), some (.iconst 4, 0, [], []), some (.iadd, 0, [], []), some (.iaload, 0, [], []), some (.aload_n 0, 0, [], []), some (.iload_n 3, 0, [], []), some (.iconst 5, 0, [], []), some (.iadd, 0, [], []), some (.iaload, 0, [], []), some (.invokevirtual 143, 0, [165, 5, 7, 8, 0], [906, 39, 907, 908]), none, none, some (.if_icmp .eq 217, 0, [1335], [])],
  [none, some (.iconst 0, 0, [], []), some (.ireturn, 0, [], []), some (.aload_n 1, 0, [], []), some (.aload_n 0, 0, [], []), some (.iload_n 3, 0, [], []), some (.iconst 1, 0, [], []), some (.iadd, 0, [], []), some (.iaload, 0, [], []), some (.aload_n 0, 0, [], []), some (.iload_n 3, 0, [], []), some (.iconst 2, 0, [], []), some (.iadd, 0, [], []), some (.iaload, 0, [], []), some (.aload_n 0, 0, [], []), some (.iload_n 3, 0, [], [])],
  [some (.iconst 3, 0, [], []), some (.iadd, 0, [], []), some (.iaload, 0, [], []), some (.invokevirtual 144, 0, [87, 3, 6, 4, 0], [600, 32, 601, 602]), none, none, some (.aload_n 2, 0, [], []), some (.aload_n 0, 0, [], []), some (.iload_n 3, 0, [], []), some (.iconst 1, 0, [], []), some (.iadd, 0, [], []), some (.iaload, 0, [], []), some (.aload_n 0, 0, [], []), some (.iload_n 3, 0, [], []), some (.iconst 2, 0, [], []), some (.iadd, 0, [], [])],
  [some (.iaload, 0, [], []), some (.aload_n 0, 0, [], []), some (.iload_n 3, 0, [], []), some (.iconst 3, 0, [], []), some (.iadd, 0, [], []), some (.iaload, 0, [], []), some (.invokevirtual 147, 0, [166, 3, 7, 5, 0], [910, 39, 911, 912]), none, none, some (.if_icmp .eq 174, 0, [1335], []), none, none, some (.iconst 0, 0, [], []), some (.ireturn, 0, [], []), some (.aload_n 1, 0, [], []), some (.aload_n 0, 0, [], [])],
  [some (.iload_n 3, 0, [], []), some (.iconst 1, 0, [], []), some (.iadd, 0, [], []), some (.iaload, 0, [], []), some (.invokevirtual 148, 0, [88, 1, 6, 2, 0], [609, 32, 610, 611]), none, none, some (.aload_n 2, 0, [], []), some (.aload_n 0, 0, [], []), some (.iload_n 3, 0, [], []), some (.iconst 1, 0, [], []), some (.iadd, 0, [], []), some (.iaload, 0, [], []), some (.invokevirtual 151, 0, [167, 1, 7, 2, 0], [914, 39, 915, 916])],
  [some (.if_icmp .eq 151, 0, [1335], []), none, none, some (.iconst 0, 0, [], []), some (.ireturn, 0, [], []), some (.aload_n 1, 0, [], []), some (.aload_n 0, 0, [], []), some (.iload_n 3, 0, [], []), some (.iconst 1, 0, [], []), some (.iadd, 0, [], []), some (.iaload, 0, [], []), some (.aload_n 0, 0, [], []), some (.iload_n 3, 0, [], []), some (.iconst 2, 0, [], []), some (.iadd, 0, [], []), some (.iaload, 0, [], [])],
  [some (.aload_n 0, 0, [], []), some (.iload_n 3, 0, [], []), some (.iconst 3, 0, [], []), some (.iadd, 0, [], []), some (.iaload, 0, [], []), some (.aload_n 0, 0, [], []), some (.iload_n 3, 0, [], []), some (.iconst 4, 0, [], []), some (.iadd, 0, [], []), some (.iaload, 0, [], []), some (.i2l, 0, [], []), some (.bipush 32, 0, [], []), none, some (.lshl, 0, [], []), some (.aload_n 0, 0, [], []), some (.iload_n 3, 0, [], [])],
  [some (.iconst 5, 0, [], []), some (.iadd, 0, [], []), some (.iaload, 0, [], []), some (.i2l, 0, [], []), some (.ldc2_w 152, 0, [4294967295], [926]), none, none, some (.land, 0, [], []), some (.lor, 0, [], []), some (.invokevirtual 154, 0, [89, 4, 6, 7, 0], [617, 32, 618, 619]), none, none, some (.aload_n 2, 0, [], []), some (.aload_n 0, 0, [], []), some (.iload_n 3, 0, [], []), some (.iconst 1, 0, [], [])],
  [some (.iadd, 0, [], []), some (.iaload, 0, [], []), some (.aload_n 0, 0, [], []), some (.iload_n 3, 0, [], []), some (.iconst 2, 0, [], []), some (.iadd, 0, [], []), some (.iaload, 0, [], []), some (.aload_n 0, 0, [], []), some (.iload_n 3, 0, [], []), some (.iconst 3, 0, [], []), some (.iadd, 0, [], []), some (.iaload, 0, [], []), some (.aload_n 0, 0, [], []), some (.iload_n 3, 0, [], []), some (.iconst 4, 0, [], []), some (.iadd, 0, [], [])],
  [some (.iaload, 0, [], []), some (.i2l, 0, [], []), some (.bipush 32, 0, [], []), none, some (.lshl, 0, [], []), some (.aload_n 0, 0, [], []), some (.iload_n 3, 0, [], []), some (.iconst 5, 0, [], []), some (.iadd, 0, [], []), some (.iaload, 0, [], []), some (.i2l, 0, [], []), some (.ldc2_w 152, 0, [4294967295], [926]), none, none, some (.land, 0, [], []), some (.lor, 0, [], [])],
  [some (.invokevirtual 158, 0, [168, 4, 7, 7, 0], [918, 39, 919, 920]), none, none, some (.if_icmp .eq 68, 0, [1335], []), none, none, some (.iconst 0, 0, [], []), some (.ireturn, 0, [], []), some (.aload_n 1, 0, [], []), some (.aload_n 0, 0, [], []), some (.iload_n 3, 0, [], []), some (.iconst 1, 0, [], []), some (.iadd, 0, [], []), some (.iaload, 0, [], []), some (.aload_n 0, 0, [], []), some (.iload_n 3, 0, [], [])],
  [some (.iconst 2, 0, [], []), some (.iadd, 0, [], []), some (.iaload, 0, [], []), some (.aload_n 0, 0, [], []), some (.iload_n 3, 0, [], []), some (.iconst 3, 0, [], []), some (.iadd, 0, [], []), some (.iaload, 0, [], []), some (.aload_n 0, 0, [], []), some (.iload_n 3, 0, [], []), some (.iconst 4, 0, [], []), some (.iadd, 0, [], []), some (.iaload, 0, [], []), some (.aload_n 0, 0, [], []), some (.iload_n 3, 0, [], []), some (.iconst 5, 0, [], [])],
  [some (.iadd, 0, [], []), some (.iaload, 0, [], []), some (.invokevirtual 159, 0, [90, 5, 6, 6, 0], [621, 32, 622, 623]), none, none, some (.aload_n 2, 0, [], []), some (.aload_n 0, 0, [], []), some (.iload_n 3, 0, [], []), some (.iconst 1, 0, [], []), some (.iadd, 0, [], []), some (.iaload, 0, [], []), some (.aload_n 0, 0, [], []), some (.iload_n 3, 0, [], []), some (.iconst 2, 0, [], []), some (.iadd, 0, [], []), some (.iaload, 0, [], [])],
  [some (.aload_n 0, 0, [], []), some (.iload_n 3, 0, [], []), some (.iconst 3, 0, [], []), some (.iadd, 0, [], []), some (.iaload, 0, [], []), some (.aload_n 0, 0, [], []), some (.iload_n 3, 0, [], []), some (.iconst 4, 0, [], []), some (.iadd, 0, [], []), some (.iaload, 0, [], []), some (.aload_n 0, 0, [], []), some (.iload_n 3, 0, [], []), some (.iconst 5, 0, [], []), some (.iadd, 0, [], []), some (.iaload, 0, [], []), some (.invokevirtual 162, 0, [169, 5, 7, 9, 0], [922, 39, 923, 924])],
  [none, none, some (.if_icmp .eq 5, 0, [1335], []), none, none, some (.iconst 0, 0, [], []), some (.ireturn, 0, [], []), some (.iinc 3 7, 0, [], []), none, none, some (.goto (-1320), 0, [18], []), none, none, some (.iconst 1, 0, [], []), some (.ireturn, 0, [], [])]])
def kn_T : List kn_M := [km_X0_init, km_X0_add, km_X0_owedBy, km_X0_become, km_X1_init, km_X1_depthOf, km_X1_deepest, km_X1_fillDepths, km_X1_deepestAmong, km_X1_countOrders, km_X1_countOrdersWith, km_X1_fillBars, km_X1_countWays, km_X1_waysTo, km_X2_init, km_X2_makeRoom, km_X2_become, km_X3_init, km_X3_addLetter, km_X3_readTape, km_X3_readClauses, km_X3_readClause, km_X3_readHolds, km_X3_readBarred, km_X3_nextLetter, km_X3_letterAt, km_X3_isDigit, km_X3_kindOf, km_X4_init, km_X4_addClause, km_X4_startWith, km_X4_become, km_X4_firmBy, km_X4_firmOnDay, km_X4_firmOf, km_X4_firmTogether, km_X4_weigh, km_X4_freeAmong, km_X4_fallsAmong, km_X4_boundParties, km_X4_neededFor, km_X4_firmestUpTo, km_X4_undoBy, km_X4_driftOneDay, km_X4_remember, km_X4_takeBack, km_X5_init, km_X5_lay, km_X5_takeAway, km_X5_faultOf, km_X5_isInside, km_X5_get, km_X5_put, km_X5_lowestBits, km_X5_carry, km_X6_init, km_X6_clause, km_X6_of, km_X6_party, km_X6_owe, km_X6_type, km_X6_agreement, km_X6_count, km_X6_pull, km_X6_cut, km_X6_tie, km_X6_wet, km_X6_days, km_X6_drift, km_X6_undo, km_X6_seed, km_X6_falls, km_X6_pulls, km_X6_force, km_X6_needs, km_X6_deep, km_X6_frees, km_X6_orders, km_X6_ahead, km_X6_game, km_X6_cuts, km_X6_weather, km_X6_rotten, km_X6_image, km_X6_restore, km_X6_felt, km_X6_film, km_X6_sheet, km_X6_drop, km_X6_item, km_X6_copy, km_X6_isWithin, km_X6_isForce, km_X6_isParty, km_X6_isSheet, km_X6_isLane, km_X6_isClause, km_X6_has, km_X6_nthOf, km_X6_powerOf, km_X6_lowestPartOf, km_X6_areForces, km_X6_kindsFelt, km_X6_holdsFelt, km_X6_isAsTold, km_X7_init, km_X7_in, km_X7_has, km_X7_bits, km_X7_bring, km_X7_isClause, km_X7_add, km_X7_clause, km_X7_firmBy, km_X7_firm, km_X7_isFree, km_X7_of, km_X7_owedBy, km_X7_party, km_X7_owe, km_X7_type, km_X7_peek, km_X7_isSign, km_X7_isDigit, km_X7_isNumber, km_X7_kindBy, km_X7_isClauseItem, km_X7_isAgreement, km_X7_agreement, km_X7_freeIn, km_X7_boundOnes, km_X7_count, km_X7_note, km_X7_fallsIn, km_X7_pullIn, km_X7_pull, km_X7_cut, km_X7_tie, km_X7_wet, km_X7_days, km_X7_drift, km_X7_undo, km_X7_seed, km_X7_begin, km_X7_falls, km_X7_pulls, km_X7_force, km_X7_needsOf, km_X7_needs, km_X7_deep, km_X7_frees, km_X7_layWays, km_X7_orders, km_X7_partOf, km_X7_ahead, km_X7_game, km_X7_cuts, km_X7_weather, km_X7_rotten, km_X7_image, km_X7_restore, km_X7_isSheet, km_X7_isPart, km_X7_wrong, km_X7_felt, km_X7_film, km_X7_sheet, km_X7_drop, km_X7_item, km_X7_copy, km_J6_bitCount_0f7a4]
end
section
theorem ok_X0_init : kn_okM kn_cl lw_tbl kn_Ns kn_T km_X0_init = true := by decide +kernel
theorem ok_X0_add : kn_okM kn_cl lw_tbl kn_Ns kn_T km_X0_add = true := by decide +kernel
theorem ok_X0_owedBy : kn_okM kn_cl lw_tbl kn_Ns kn_T km_X0_owedBy = true := by decide +kernel
theorem ok_X0_become : kn_okM kn_cl lw_tbl kn_Ns kn_T km_X0_become = true := by decide +kernel
theorem ok_X1_init : kn_okM kn_cl lw_tbl kn_Ns kn_T km_X1_init = true := by decide +kernel
theorem ok_X1_depthOf : kn_okM kn_cl lw_tbl kn_Ns kn_T km_X1_depthOf = true := by decide +kernel
theorem ok_X1_deepest : kn_okM kn_cl lw_tbl kn_Ns kn_T km_X1_deepest = true := by decide +kernel
theorem ok_X1_fillDepths : kn_okM kn_cl lw_tbl kn_Ns kn_T km_X1_fillDepths = true := by decide +kernel
theorem ok_X1_deepestAmong : kn_okM kn_cl lw_tbl kn_Ns kn_T km_X1_deepestAmong = true := by decide +kernel
theorem ok_X1_countOrders : kn_okM kn_cl lw_tbl kn_Ns kn_T km_X1_countOrders = true := by decide +kernel
theorem ok_X1_countOrdersWith : kn_okM kn_cl lw_tbl kn_Ns kn_T km_X1_countOrdersWith = true := by decide +kernel
theorem ok_X1_fillBars : kn_okM kn_cl lw_tbl kn_Ns kn_T km_X1_fillBars = true := by decide +kernel
theorem ok_X1_countWays : kn_okM kn_cl lw_tbl kn_Ns kn_T km_X1_countWays = true := by decide +kernel
theorem ok_X1_waysTo : kn_okM kn_cl lw_tbl kn_Ns kn_T km_X1_waysTo = true := by decide +kernel
theorem ok_X2_init : kn_okM kn_cl lw_tbl kn_Ns kn_T km_X2_init = true := by decide +kernel
theorem ok_X2_makeRoom : kn_okM kn_cl lw_tbl kn_Ns kn_T km_X2_makeRoom = true := by decide +kernel
theorem ok_X2_become : kn_okM kn_cl lw_tbl kn_Ns kn_T km_X2_become = true := by decide +kernel
theorem ok_X3_init : kn_okM kn_cl lw_tbl kn_Ns kn_T km_X3_init = true := by decide +kernel
theorem ok_X3_addLetter : kn_okM kn_cl lw_tbl kn_Ns kn_T km_X3_addLetter = true := by decide +kernel
theorem ok_X3_readTape : kn_okM kn_cl lw_tbl kn_Ns kn_T km_X3_readTape = true := by decide +kernel
theorem ok_X3_readClauses : kn_okM kn_cl lw_tbl kn_Ns kn_T km_X3_readClauses = true := by decide +kernel
theorem ok_X3_readClause : kn_okM kn_cl lw_tbl kn_Ns kn_T km_X3_readClause = true := by decide +kernel
theorem ok_X3_readHolds : kn_okM kn_cl lw_tbl kn_Ns kn_T km_X3_readHolds = true := by decide +kernel
theorem ok_X3_readBarred : kn_okM kn_cl lw_tbl kn_Ns kn_T km_X3_readBarred = true := by decide +kernel
theorem ok_X3_nextLetter : kn_okM kn_cl lw_tbl kn_Ns kn_T km_X3_nextLetter = true := by decide +kernel
theorem ok_X3_letterAt : kn_okM kn_cl lw_tbl kn_Ns kn_T km_X3_letterAt = true := by decide +kernel
theorem ok_X3_isDigit : kn_okM kn_cl lw_tbl kn_Ns kn_T km_X3_isDigit = true := by decide +kernel
theorem ok_X3_kindOf : kn_okM kn_cl lw_tbl kn_Ns kn_T km_X3_kindOf = true := by decide +kernel
theorem ok_X4_init : kn_okM kn_cl lw_tbl kn_Ns kn_T km_X4_init = true := by decide +kernel
theorem ok_X4_addClause : kn_okM kn_cl lw_tbl kn_Ns kn_T km_X4_addClause = true := by decide +kernel
theorem ok_X4_startWith : kn_okM kn_cl lw_tbl kn_Ns kn_T km_X4_startWith = true := by decide +kernel
theorem ok_X4_become : kn_okM kn_cl lw_tbl kn_Ns kn_T km_X4_become = true := by decide +kernel
theorem ok_X4_firmBy : kn_okM kn_cl lw_tbl kn_Ns kn_T km_X4_firmBy = true := by decide +kernel
theorem ok_X4_firmOnDay : kn_okM kn_cl lw_tbl kn_Ns kn_T km_X4_firmOnDay = true := by decide +kernel
theorem ok_X4_firmOf : kn_okM kn_cl lw_tbl kn_Ns kn_T km_X4_firmOf = true := by decide +kernel
theorem ok_X4_firmTogether : kn_okM kn_cl lw_tbl kn_Ns kn_T km_X4_firmTogether = true := by decide +kernel
theorem ok_X4_weigh : kn_okM kn_cl lw_tbl kn_Ns kn_T km_X4_weigh = true := by decide +kernel
theorem ok_X4_freeAmong : kn_okM kn_cl lw_tbl kn_Ns kn_T km_X4_freeAmong = true := by decide +kernel
theorem ok_X4_fallsAmong : kn_okM kn_cl lw_tbl kn_Ns kn_T km_X4_fallsAmong = true := by decide +kernel
theorem ok_X4_boundParties : kn_okM kn_cl lw_tbl kn_Ns kn_T km_X4_boundParties = true := by decide +kernel
theorem ok_X4_neededFor : kn_okM kn_cl lw_tbl kn_Ns kn_T km_X4_neededFor = true := by decide +kernel
theorem ok_X4_firmestUpTo : kn_okM kn_cl lw_tbl kn_Ns kn_T km_X4_firmestUpTo = true := by decide +kernel
theorem ok_X4_undoBy : kn_okM kn_cl lw_tbl kn_Ns kn_T km_X4_undoBy = true := by decide +kernel
theorem ok_X4_driftOneDay : kn_okM kn_cl lw_tbl kn_Ns kn_T km_X4_driftOneDay = true := by decide +kernel
theorem ok_X4_remember : kn_okM kn_cl lw_tbl kn_Ns kn_T km_X4_remember = true := by decide +kernel
end
section
theorem ok_X4_takeBack : kn_okM kn_cl lw_tbl kn_Ns kn_T km_X4_takeBack = true := by decide +kernel
theorem ok_X5_init : kn_okM kn_cl lw_tbl kn_Ns kn_T km_X5_init = true := by decide +kernel
theorem ok_X5_lay : kn_okM kn_cl lw_tbl kn_Ns kn_T km_X5_lay = true := by decide +kernel
theorem ok_X5_takeAway : kn_okM kn_cl lw_tbl kn_Ns kn_T km_X5_takeAway = true := by decide +kernel
theorem ok_X5_faultOf : kn_okM kn_cl lw_tbl kn_Ns kn_T km_X5_faultOf = true := by decide +kernel
theorem ok_X5_isInside : kn_okM kn_cl lw_tbl kn_Ns kn_T km_X5_isInside = true := by decide +kernel
theorem ok_X5_get : kn_okM kn_cl lw_tbl kn_Ns kn_T km_X5_get = true := by decide +kernel
theorem ok_X5_put : kn_okM kn_cl lw_tbl kn_Ns kn_T km_X5_put = true := by decide +kernel
theorem ok_X5_lowestBits : kn_okM kn_cl lw_tbl kn_Ns kn_T km_X5_lowestBits = true := by decide +kernel
theorem ok_X5_carry : kn_okM kn_cl lw_tbl kn_Ns kn_T km_X5_carry = true := by decide +kernel
theorem ok_X6_init : kn_okM kn_cl lw_tbl kn_Ns kn_T km_X6_init = true := by decide +kernel
theorem ok_X6_clause : kn_okM kn_cl lw_tbl kn_Ns kn_T km_X6_clause = true := by decide +kernel
theorem ok_X6_of : kn_okM kn_cl lw_tbl kn_Ns kn_T km_X6_of = true := by decide +kernel
theorem ok_X6_party : kn_okM kn_cl lw_tbl kn_Ns kn_T km_X6_party = true := by decide +kernel
theorem ok_X6_owe : kn_okM kn_cl lw_tbl kn_Ns kn_T km_X6_owe = true := by decide +kernel
theorem ok_X6_type : kn_okM kn_cl lw_tbl kn_Ns kn_T km_X6_type = true := by decide +kernel
theorem ok_X6_agreement : kn_okM kn_cl lw_tbl kn_Ns kn_T km_X6_agreement = true := by decide +kernel
theorem ok_X6_count : kn_okM kn_cl lw_tbl kn_Ns kn_T km_X6_count = true := by decide +kernel
theorem ok_X6_pull : kn_okM kn_cl lw_tbl kn_Ns kn_T km_X6_pull = true := by decide +kernel
theorem ok_X6_cut : kn_okM kn_cl lw_tbl kn_Ns kn_T km_X6_cut = true := by decide +kernel
theorem ok_X6_tie : kn_okM kn_cl lw_tbl kn_Ns kn_T km_X6_tie = true := by decide +kernel
theorem ok_X6_wet : kn_okM kn_cl lw_tbl kn_Ns kn_T km_X6_wet = true := by decide +kernel
theorem ok_X6_days : kn_okM kn_cl lw_tbl kn_Ns kn_T km_X6_days = true := by decide +kernel
theorem ok_X6_drift : kn_okM kn_cl lw_tbl kn_Ns kn_T km_X6_drift = true := by decide +kernel
theorem ok_X6_undo : kn_okM kn_cl lw_tbl kn_Ns kn_T km_X6_undo = true := by decide +kernel
theorem ok_X6_seed : kn_okM kn_cl lw_tbl kn_Ns kn_T km_X6_seed = true := by decide +kernel
theorem ok_X6_falls : kn_okM kn_cl lw_tbl kn_Ns kn_T km_X6_falls = true := by decide +kernel
theorem ok_X6_pulls : kn_okM kn_cl lw_tbl kn_Ns kn_T km_X6_pulls = true := by decide +kernel
theorem ok_X6_force : kn_okM kn_cl lw_tbl kn_Ns kn_T km_X6_force = true := by decide +kernel
theorem ok_X6_needs : kn_okM kn_cl lw_tbl kn_Ns kn_T km_X6_needs = true := by decide +kernel
theorem ok_X6_deep : kn_okM kn_cl lw_tbl kn_Ns kn_T km_X6_deep = true := by decide +kernel
theorem ok_X6_frees : kn_okM kn_cl lw_tbl kn_Ns kn_T km_X6_frees = true := by decide +kernel
theorem ok_X6_orders : kn_okM kn_cl lw_tbl kn_Ns kn_T km_X6_orders = true := by decide +kernel
theorem ok_X6_ahead : kn_okM kn_cl lw_tbl kn_Ns kn_T km_X6_ahead = true := by decide +kernel
theorem ok_X6_game : kn_okM kn_cl lw_tbl kn_Ns kn_T km_X6_game = true := by decide +kernel
theorem ok_X6_cuts : kn_okM kn_cl lw_tbl kn_Ns kn_T km_X6_cuts = true := by decide +kernel
theorem ok_X6_weather : kn_okM kn_cl lw_tbl kn_Ns kn_T km_X6_weather = true := by decide +kernel
theorem ok_X6_rotten : kn_okM kn_cl lw_tbl kn_Ns kn_T km_X6_rotten = true := by decide +kernel
theorem ok_X6_image : kn_okM kn_cl lw_tbl kn_Ns kn_T km_X6_image = true := by decide +kernel
theorem ok_X6_restore : kn_okM kn_cl lw_tbl kn_Ns kn_T km_X6_restore = true := by decide +kernel
theorem ok_X6_felt : kn_okM kn_cl lw_tbl kn_Ns kn_T km_X6_felt = true := by decide +kernel
theorem ok_X6_film : kn_okM kn_cl lw_tbl kn_Ns kn_T km_X6_film = true := by decide +kernel
theorem ok_X6_sheet : kn_okM kn_cl lw_tbl kn_Ns kn_T km_X6_sheet = true := by decide +kernel
theorem ok_X6_drop : kn_okM kn_cl lw_tbl kn_Ns kn_T km_X6_drop = true := by decide +kernel
theorem ok_X6_item : kn_okM kn_cl lw_tbl kn_Ns kn_T km_X6_item = true := by decide +kernel
end
section
theorem ok_X6_copy : kn_okM kn_cl lw_tbl kn_Ns kn_T km_X6_copy = true := by decide +kernel
theorem ok_X6_isWithin : kn_okM kn_cl lw_tbl kn_Ns kn_T km_X6_isWithin = true := by decide +kernel
theorem ok_X6_isForce : kn_okM kn_cl lw_tbl kn_Ns kn_T km_X6_isForce = true := by decide +kernel
theorem ok_X6_isParty : kn_okM kn_cl lw_tbl kn_Ns kn_T km_X6_isParty = true := by decide +kernel
theorem ok_X6_isSheet : kn_okM kn_cl lw_tbl kn_Ns kn_T km_X6_isSheet = true := by decide +kernel
theorem ok_X6_isLane : kn_okM kn_cl lw_tbl kn_Ns kn_T km_X6_isLane = true := by decide +kernel
theorem ok_X6_isClause : kn_okM kn_cl lw_tbl kn_Ns kn_T km_X6_isClause = true := by decide +kernel
theorem ok_X6_has : kn_okM kn_cl lw_tbl kn_Ns kn_T km_X6_has = true := by decide +kernel
theorem ok_X6_nthOf : kn_okM kn_cl lw_tbl kn_Ns kn_T km_X6_nthOf = true := by decide +kernel
theorem ok_X6_powerOf : kn_okM kn_cl lw_tbl kn_Ns kn_T km_X6_powerOf = true := by decide +kernel
theorem ok_X6_lowestPartOf : kn_okM kn_cl lw_tbl kn_Ns kn_T km_X6_lowestPartOf = true := by decide +kernel
theorem ok_X6_areForces : kn_okM kn_cl lw_tbl kn_Ns kn_T km_X6_areForces = true := by decide +kernel
theorem ok_X6_kindsFelt : kn_okM kn_cl lw_tbl kn_Ns kn_T km_X6_kindsFelt = true := by decide +kernel
theorem ok_X6_holdsFelt : kn_okM kn_cl lw_tbl kn_Ns kn_T km_X6_holdsFelt = true := by decide +kernel
theorem ok_X6_isAsTold : kn_okM kn_cl lw_tbl kn_Ns kn_T km_X6_isAsTold = true := by decide +kernel
theorem ok_X7_init : kn_okM kn_cl lw_tbl kn_Ns kn_T km_X7_init = true := by decide +kernel
theorem ok_X7_in : kn_okM kn_cl lw_tbl kn_Ns kn_T km_X7_in = true := by decide +kernel
theorem ok_X7_has : kn_okM kn_cl lw_tbl kn_Ns kn_T km_X7_has = true := by decide +kernel
theorem ok_X7_bits : kn_okM kn_cl lw_tbl kn_Ns kn_T km_X7_bits = true := by decide +kernel
theorem ok_X7_bring : kn_okM kn_cl lw_tbl kn_Ns kn_T km_X7_bring = true := by decide +kernel
theorem ok_X7_isClause : kn_okM kn_cl lw_tbl kn_Ns kn_T km_X7_isClause = true := by decide +kernel
theorem ok_X7_add : kn_okM kn_cl lw_tbl kn_Ns kn_T km_X7_add = true := by decide +kernel
theorem ok_X7_clause : kn_okM kn_cl lw_tbl kn_Ns kn_T km_X7_clause = true := by decide +kernel
theorem ok_X7_firmBy : kn_okM kn_cl lw_tbl kn_Ns kn_T km_X7_firmBy = true := by decide +kernel
theorem ok_X7_firm : kn_okM kn_cl lw_tbl kn_Ns kn_T km_X7_firm = true := by decide +kernel
theorem ok_X7_isFree : kn_okM kn_cl lw_tbl kn_Ns kn_T km_X7_isFree = true := by decide +kernel
theorem ok_X7_of : kn_okM kn_cl lw_tbl kn_Ns kn_T km_X7_of = true := by decide +kernel
theorem ok_X7_owedBy : kn_okM kn_cl lw_tbl kn_Ns kn_T km_X7_owedBy = true := by decide +kernel
theorem ok_X7_party : kn_okM kn_cl lw_tbl kn_Ns kn_T km_X7_party = true := by decide +kernel
theorem ok_X7_owe : kn_okM kn_cl lw_tbl kn_Ns kn_T km_X7_owe = true := by decide +kernel
theorem ok_X7_type : kn_okM kn_cl lw_tbl kn_Ns kn_T km_X7_type = true := by decide +kernel
theorem ok_X7_peek : kn_okM kn_cl lw_tbl kn_Ns kn_T km_X7_peek = true := by decide +kernel
theorem ok_X7_isSign : kn_okM kn_cl lw_tbl kn_Ns kn_T km_X7_isSign = true := by decide +kernel
theorem ok_X7_isDigit : kn_okM kn_cl lw_tbl kn_Ns kn_T km_X7_isDigit = true := by decide +kernel
theorem ok_X7_isNumber : kn_okM kn_cl lw_tbl kn_Ns kn_T km_X7_isNumber = true := by decide +kernel
theorem ok_X7_kindBy : kn_okM kn_cl lw_tbl kn_Ns kn_T km_X7_kindBy = true := by decide +kernel
theorem ok_X7_isClauseItem : kn_okM kn_cl lw_tbl kn_Ns kn_T km_X7_isClauseItem = true := by decide +kernel
theorem ok_X7_isAgreement : kn_okM kn_cl lw_tbl kn_Ns kn_T km_X7_isAgreement = true := by decide +kernel
theorem ok_X7_agreement : kn_okM kn_cl lw_tbl kn_Ns kn_T km_X7_agreement = true := by decide +kernel
theorem ok_X7_freeIn : kn_okM kn_cl lw_tbl kn_Ns kn_T km_X7_freeIn = true := by decide +kernel
theorem ok_X7_boundOnes : kn_okM kn_cl lw_tbl kn_Ns kn_T km_X7_boundOnes = true := by decide +kernel
theorem ok_X7_count : kn_okM kn_cl lw_tbl kn_Ns kn_T km_X7_count = true := by decide +kernel
theorem ok_X7_note : kn_okM kn_cl lw_tbl kn_Ns kn_T km_X7_note = true := by decide +kernel
theorem ok_X7_fallsIn : kn_okM kn_cl lw_tbl kn_Ns kn_T km_X7_fallsIn = true := by decide +kernel
theorem ok_X7_pullIn : kn_okM kn_cl lw_tbl kn_Ns kn_T km_X7_pullIn = true := by decide +kernel
end
section
theorem ok_X7_pull : kn_okM kn_cl lw_tbl kn_Ns kn_T km_X7_pull = true := by decide +kernel
theorem ok_X7_cut : kn_okM kn_cl lw_tbl kn_Ns kn_T km_X7_cut = true := by decide +kernel
theorem ok_X7_tie : kn_okM kn_cl lw_tbl kn_Ns kn_T km_X7_tie = true := by decide +kernel
theorem ok_X7_wet : kn_okM kn_cl lw_tbl kn_Ns kn_T km_X7_wet = true := by decide +kernel
theorem ok_X7_days : kn_okM kn_cl lw_tbl kn_Ns kn_T km_X7_days = true := by decide +kernel
theorem ok_X7_drift : kn_okM kn_cl lw_tbl kn_Ns kn_T km_X7_drift = true := by decide +kernel
theorem ok_X7_undo : kn_okM kn_cl lw_tbl kn_Ns kn_T km_X7_undo = true := by decide +kernel
theorem ok_X7_seed : kn_okM kn_cl lw_tbl kn_Ns kn_T km_X7_seed = true := by decide +kernel
theorem ok_X7_begin : kn_okM kn_cl lw_tbl kn_Ns kn_T km_X7_begin = true := by decide +kernel
theorem ok_X7_falls : kn_okM kn_cl lw_tbl kn_Ns kn_T km_X7_falls = true := by decide +kernel
theorem ok_X7_pulls : kn_okM kn_cl lw_tbl kn_Ns kn_T km_X7_pulls = true := by decide +kernel
theorem ok_X7_force : kn_okM kn_cl lw_tbl kn_Ns kn_T km_X7_force = true := by decide +kernel
theorem ok_X7_needsOf : kn_okM kn_cl lw_tbl kn_Ns kn_T km_X7_needsOf = true := by decide +kernel
theorem ok_X7_needs : kn_okM kn_cl lw_tbl kn_Ns kn_T km_X7_needs = true := by decide +kernel
theorem ok_X7_deep : kn_okM kn_cl lw_tbl kn_Ns kn_T km_X7_deep = true := by decide +kernel
theorem ok_X7_frees : kn_okM kn_cl lw_tbl kn_Ns kn_T km_X7_frees = true := by decide +kernel
theorem ok_X7_layWays : kn_okM kn_cl lw_tbl kn_Ns kn_T km_X7_layWays = true := by decide +kernel
theorem ok_X7_orders : kn_okM kn_cl lw_tbl kn_Ns kn_T km_X7_orders = true := by decide +kernel
theorem ok_X7_partOf : kn_okM kn_cl lw_tbl kn_Ns kn_T km_X7_partOf = true := by decide +kernel
theorem ok_X7_ahead : kn_okM kn_cl lw_tbl kn_Ns kn_T km_X7_ahead = true := by decide +kernel
theorem ok_X7_game : kn_okM kn_cl lw_tbl kn_Ns kn_T km_X7_game = true := by decide +kernel
theorem ok_X7_cuts : kn_okM kn_cl lw_tbl kn_Ns kn_T km_X7_cuts = true := by decide +kernel
theorem ok_X7_weather : kn_okM kn_cl lw_tbl kn_Ns kn_T km_X7_weather = true := by decide +kernel
theorem ok_X7_rotten : kn_okM kn_cl lw_tbl kn_Ns kn_T km_X7_rotten = true := by decide +kernel
theorem ok_X7_image : kn_okM kn_cl lw_tbl kn_Ns kn_T km_X7_image = true := by decide +kernel
theorem ok_X7_restore : kn_okM kn_cl lw_tbl kn_Ns kn_T km_X7_restore = true := by decide +kernel
theorem ok_X7_isSheet : kn_okM kn_cl lw_tbl kn_Ns kn_T km_X7_isSheet = true := by decide +kernel
theorem ok_X7_isPart : kn_okM kn_cl lw_tbl kn_Ns kn_T km_X7_isPart = true := by decide +kernel
theorem ok_X7_wrong : kn_okM kn_cl lw_tbl kn_Ns kn_T km_X7_wrong = true := by decide +kernel
theorem ok_X7_felt : kn_okM kn_cl lw_tbl kn_Ns kn_T km_X7_felt = true := by decide +kernel
theorem ok_X7_film : kn_okM kn_cl lw_tbl kn_Ns kn_T km_X7_film = true := by decide +kernel
theorem ok_X7_sheet : kn_okM kn_cl lw_tbl kn_Ns kn_T km_X7_sheet = true := by decide +kernel
theorem ok_X7_drop : kn_okM kn_cl lw_tbl kn_Ns kn_T km_X7_drop = true := by decide +kernel
theorem ok_X7_item : kn_okM kn_cl lw_tbl kn_Ns kn_T km_X7_item = true := by decide +kernel
theorem ok_X7_copy : kn_okM kn_cl lw_tbl kn_Ns kn_T km_X7_copy = true := by decide +kernel
theorem ok_J6_bitCount_0f7a4 : kn_okM kn_cl lw_tbl kn_Ns kn_T km_J6_bitCount_0f7a4 = true := by decide +kernel
end
section
theorem okl_0 : kn_okC kn_cl lw_tbl kn_Ns kn_T km_law 0 = true := by decide +kernel
theorem okl_1 : kn_okC kn_cl lw_tbl kn_Ns kn_T km_law 1 = true := by decide +kernel
theorem okl_2 : kn_okC kn_cl lw_tbl kn_Ns kn_T km_law 2 = true := by decide +kernel
theorem okl_3 : kn_okC kn_cl lw_tbl kn_Ns kn_T km_law 3 = true := by decide +kernel
theorem okl_4 : kn_okC kn_cl lw_tbl kn_Ns kn_T km_law 4 = true := by decide +kernel
theorem okl_5 : kn_okC kn_cl lw_tbl kn_Ns kn_T km_law 5 = true := by decide +kernel
theorem okl_6 : kn_okC kn_cl lw_tbl kn_Ns kn_T km_law 6 = true := by decide +kernel
theorem okl_7 : kn_okC kn_cl lw_tbl kn_Ns kn_T km_law 7 = true := by decide +kernel
theorem okl_8 : kn_okC kn_cl lw_tbl kn_Ns kn_T km_law 8 = true := by decide +kernel
theorem okl_9 : kn_okC kn_cl lw_tbl kn_Ns kn_T km_law 9 = true := by decide +kernel
theorem okl_10 : kn_okC kn_cl lw_tbl kn_Ns kn_T km_law 10 = true := by decide +kernel
theorem okl_11 : kn_okC kn_cl lw_tbl kn_Ns kn_T km_law 11 = true := by decide +kernel
theorem okl_12 : kn_okC kn_cl lw_tbl kn_Ns kn_T km_law 12 = true := by decide +kernel
theorem okl_13 : kn_okC kn_cl lw_tbl kn_Ns kn_T km_law 13 = true := by decide +kernel
theorem okl_14 : kn_okC kn_cl lw_tbl kn_Ns kn_T km_law 14 = true := by decide +kernel
theorem okl_15 : kn_okC kn_cl lw_tbl kn_Ns kn_T km_law 15 = true := by decide +kernel
theorem okl_16 : kn_okC kn_cl lw_tbl kn_Ns kn_T km_law 16 = true := by decide +kernel
theorem okl_17 : kn_okC kn_cl lw_tbl kn_Ns kn_T km_law 17 = true := by decide +kernel
theorem okl_18 : kn_okC kn_cl lw_tbl kn_Ns kn_T km_law 18 = true := by decide +kernel
theorem okl_19 : kn_okC kn_cl lw_tbl kn_Ns kn_T km_law 19 = true := by decide +kernel
theorem okl_20 : kn_okC kn_cl lw_tbl kn_Ns kn_T km_law 20 = true := by decide +kernel
theorem okl_21 : kn_okC kn_cl lw_tbl kn_Ns kn_T km_law 21 = true := by decide +kernel
theorem okl_22 : kn_okC kn_cl lw_tbl kn_Ns kn_T km_law 22 = true := by decide +kernel
theorem okl_23 : kn_okC kn_cl lw_tbl kn_Ns kn_T km_law 23 = true := by decide +kernel
theorem okl_24 : kn_okC kn_cl lw_tbl kn_Ns kn_T km_law 24 = true := by decide +kernel
theorem okl_25 : kn_okC kn_cl lw_tbl kn_Ns kn_T km_law 25 = true := by decide +kernel
theorem okl_26 : kn_okC kn_cl lw_tbl kn_Ns kn_T km_law 26 = true := by decide +kernel
theorem okl_27 : kn_okC kn_cl lw_tbl kn_Ns kn_T km_law 27 = true := by decide +kernel
theorem okl_28 : kn_okC kn_cl lw_tbl kn_Ns kn_T km_law 28 = true := by decide +kernel
theorem okl_29 : kn_okC kn_cl lw_tbl kn_Ns kn_T km_law 29 = true := by decide +kernel
theorem okl_30 : kn_okC kn_cl lw_tbl kn_Ns kn_T km_law 30 = true := by decide +kernel
theorem okl_31 : kn_okC kn_cl lw_tbl kn_Ns kn_T km_law 31 = true := by decide +kernel
theorem okl_32 : kn_okC kn_cl lw_tbl kn_Ns kn_T km_law 32 = true := by decide +kernel
theorem okl_33 : kn_okC kn_cl lw_tbl kn_Ns kn_T km_law 33 = true := by decide +kernel
theorem okl_34 : kn_okC kn_cl lw_tbl kn_Ns kn_T km_law 34 = true := by decide +kernel
theorem okl_35 : kn_okC kn_cl lw_tbl kn_Ns kn_T km_law 35 = true := by decide +kernel
theorem okl_36 : kn_okC kn_cl lw_tbl kn_Ns kn_T km_law 36 = true := by decide +kernel
theorem okl_37 : kn_okC kn_cl lw_tbl kn_Ns kn_T km_law 37 = true := by decide +kernel
theorem okl_38 : kn_okC kn_cl lw_tbl kn_Ns kn_T km_law 38 = true := by decide +kernel
theorem okl_39 : kn_okC kn_cl lw_tbl kn_Ns kn_T km_law 39 = true := by decide +kernel
theorem okl_40 : kn_okC kn_cl lw_tbl kn_Ns kn_T km_law 40 = true := by decide +kernel
theorem okl_41 : kn_okC kn_cl lw_tbl kn_Ns kn_T km_law 41 = true := by decide +kernel
end
section
theorem okl_42 : kn_okC kn_cl lw_tbl kn_Ns kn_T km_law 42 = true := by decide +kernel
theorem okl_43 : kn_okC kn_cl lw_tbl kn_Ns kn_T km_law 43 = true := by decide +kernel
theorem okl_44 : kn_okC kn_cl lw_tbl kn_Ns kn_T km_law 44 = true := by decide +kernel
theorem okl_45 : kn_okC kn_cl lw_tbl kn_Ns kn_T km_law 45 = true := by decide +kernel
theorem okl_46 : kn_okC kn_cl lw_tbl kn_Ns kn_T km_law 46 = true := by decide +kernel
theorem okl_47 : kn_okC kn_cl lw_tbl kn_Ns kn_T km_law 47 = true := by decide +kernel
theorem okl_48 : kn_okC kn_cl lw_tbl kn_Ns kn_T km_law 48 = true := by decide +kernel
theorem okl_49 : kn_okC kn_cl lw_tbl kn_Ns kn_T km_law 49 = true := by decide +kernel
theorem okl_50 : kn_okC kn_cl lw_tbl kn_Ns kn_T km_law 50 = true := by decide +kernel
theorem okl_51 : kn_okC kn_cl lw_tbl kn_Ns kn_T km_law 51 = true := by decide +kernel
theorem okl_52 : kn_okC kn_cl lw_tbl kn_Ns kn_T km_law 52 = true := by decide +kernel
theorem okl_53 : kn_okC kn_cl lw_tbl kn_Ns kn_T km_law 53 = true := by decide +kernel
theorem okl_54 : kn_okC kn_cl lw_tbl kn_Ns kn_T km_law 54 = true := by decide +kernel
theorem okl_55 : kn_okC kn_cl lw_tbl kn_Ns kn_T km_law 55 = true := by decide +kernel
theorem okl_56 : kn_okC kn_cl lw_tbl kn_Ns kn_T km_law 56 = true := by decide +kernel
theorem okl_57 : kn_okC kn_cl lw_tbl kn_Ns kn_T km_law 57 = true := by decide +kernel
theorem okl_58 : kn_okC kn_cl lw_tbl kn_Ns kn_T km_law 58 = true := by decide +kernel
theorem okl_59 : kn_okC kn_cl lw_tbl kn_Ns kn_T km_law 59 = true := by decide +kernel
theorem okl_60 : kn_okC kn_cl lw_tbl kn_Ns kn_T km_law 60 = true := by decide +kernel
theorem okl_61 : kn_okC kn_cl lw_tbl kn_Ns kn_T km_law 61 = true := by decide +kernel
theorem okl_62 : kn_okC kn_cl lw_tbl kn_Ns kn_T km_law 62 = true := by decide +kernel
theorem okl_63 : kn_okC kn_cl lw_tbl kn_Ns kn_T km_law 63 = true := by decide +kernel
theorem okl_64 : kn_okC kn_cl lw_tbl kn_Ns kn_T km_law 64 = true := by decide +kernel
theorem okl_65 : kn_okC kn_cl lw_tbl kn_Ns kn_T km_law 65 = true := by decide +kernel
theorem okl_66 : kn_okC kn_cl lw_tbl kn_Ns kn_T km_law 66 = true := by decide +kernel
theorem okl_67 : kn_okC kn_cl lw_tbl kn_Ns kn_T km_law 67 = true := by decide +kernel
theorem okl_68 : kn_okC kn_cl lw_tbl kn_Ns kn_T km_law 68 = true := by decide +kernel
theorem okl_69 : kn_okC kn_cl lw_tbl kn_Ns kn_T km_law 69 = true := by decide +kernel
theorem okl_70 : kn_okC kn_cl lw_tbl kn_Ns kn_T km_law 70 = true := by decide +kernel
theorem okl_71 : kn_okC kn_cl lw_tbl kn_Ns kn_T km_law 71 = true := by decide +kernel
theorem okl_72 : kn_okC kn_cl lw_tbl kn_Ns kn_T km_law 72 = true := by decide +kernel
theorem okl_73 : kn_okC kn_cl lw_tbl kn_Ns kn_T km_law 73 = true := by decide +kernel
theorem okl_74 : kn_okC kn_cl lw_tbl kn_Ns kn_T km_law 74 = true := by decide +kernel
theorem okl_75 : kn_okC kn_cl lw_tbl kn_Ns kn_T km_law 75 = true := by decide +kernel
theorem okl_76 : kn_okC kn_cl lw_tbl kn_Ns kn_T km_law 76 = true := by decide +kernel
theorem okl_77 : kn_okC kn_cl lw_tbl kn_Ns kn_T km_law 77 = true := by decide +kernel
theorem okl_78 : kn_okC kn_cl lw_tbl kn_Ns kn_T km_law 78 = true := by decide +kernel
theorem okl_79 : kn_okC kn_cl lw_tbl kn_Ns kn_T km_law 79 = true := by decide +kernel
theorem okl_80 : kn_okC kn_cl lw_tbl kn_Ns kn_T km_law 80 = true := by decide +kernel
theorem okl_81 : kn_okC kn_cl lw_tbl kn_Ns kn_T km_law 81 = true := by decide +kernel
theorem okl_82 : kn_okC kn_cl lw_tbl kn_Ns kn_T km_law 82 = true := by decide +kernel
theorem okl_83 : kn_okC kn_cl lw_tbl kn_Ns kn_T km_law 83 = true := by decide +kernel
theorem ok_law : kn_okM kn_cl lw_tbl kn_Ns kn_T km_law = true := kn_okM_of 84 (by decide +kernel) (fun i hi => match i, hi with
  | 0, _ => okl_0
  | 1, _ => okl_1
  | 2, _ => okl_2
  | 3, _ => okl_3
  | 4, _ => okl_4
  | 5, _ => okl_5
  | 6, _ => okl_6
  | 7, _ => okl_7
  | 8, _ => okl_8
  | 9, _ => okl_9
  | 10, _ => okl_10
  | 11, _ => okl_11
  | 12, _ => okl_12
  | 13, _ => okl_13
  | 14, _ => okl_14
  | 15, _ => okl_15
  | 16, _ => okl_16
  | 17, _ => okl_17
  | 18, _ => okl_18
  | 19, _ => okl_19
  | 20, _ => okl_20
  | 21, _ => okl_21
  | 22, _ => okl_22
  | 23, _ => okl_23
  | 24, _ => okl_24
  | 25, _ => okl_25
  | 26, _ => okl_26
  | 27, _ => okl_27
  | 28, _ => okl_28
  | 29, _ => okl_29
  | 30, _ => okl_30
  | 31, _ => okl_31
  | 32, _ => okl_32
  | 33, _ => okl_33
  | 34, _ => okl_34
  | 35, _ => okl_35
  | 36, _ => okl_36
  | 37, _ => okl_37
  | 38, _ => okl_38
  | 39, _ => okl_39
  | 40, _ => okl_40
  | 41, _ => okl_41
  | 42, _ => okl_42
  | 43, _ => okl_43
  | 44, _ => okl_44
  | 45, _ => okl_45
  | 46, _ => okl_46
  | 47, _ => okl_47
  | 48, _ => okl_48
  | 49, _ => okl_49
  | 50, _ => okl_50
  | 51, _ => okl_51
  | 52, _ => okl_52
  | 53, _ => okl_53
  | 54, _ => okl_54
  | 55, _ => okl_55
  | 56, _ => okl_56
  | 57, _ => okl_57
  | 58, _ => okl_58
  | 59, _ => okl_59
  | 60, _ => okl_60
  | 61, _ => okl_61
  | 62, _ => okl_62
  | 63, _ => okl_63
  | 64, _ => okl_64
  | 65, _ => okl_65
  | 66, _ => okl_66
  | 67, _ => okl_67
  | 68, _ => okl_68
  | 69, _ => okl_69
  | 70, _ => okl_70
  | 71, _ => okl_71
  | 72, _ => okl_72
  | 73, _ => okl_73
  | 74, _ => okl_74
  | 75, _ => okl_75
  | 76, _ => okl_76
  | 77, _ => okl_77
  | 78, _ => okl_78
  | 79, _ => okl_79
  | 80, _ => okl_80
  | 81, _ => okl_81
  | 82, _ => okl_82
  | 83, _ => okl_83
  | i + 84, hi => absurd hi (by omega))
end
section
-- ===== end of PART A; then your names; then what follows =====
/-! THE CLAIM OUT OF ONE WALK OF THE LAW'S BODY. Your part is whole_start (and what it stands on); all else here is the same for every law, but numbers. -/
def R_law : String := "KnotLawLaw"
def lw_P (b : Addr) (xs : List Int32) (args : Array Value) (s : State) : Prop := args = #[.ref b] ∧ s.IntsAt b xs ∧ xs.length ≤ 7 ∧ (Jvm.Cond.and given_1 narrow_1).before args s = true
def lw_Q (_ : Array Value) (s : State) (o : Outcome) (t : State) : Prop := o = .returned (some (.int 1)) ∧ Framed s o t [] 45 1765
def lw_Z (below : List Frame) (a : Array Value) (s : State) : State → Prop := fun t => ∃ o, t.status = .running ∧ Ended t below o ∧ lw_Q a s o t
/-- the law's own end, with 1 on the stack, nothing written that was there before, its room as the claim has it -/
theorem lw_ret {p : Program} {l : Launch} {e : Env} {s : State} {m : MethodId} {below : List Frame} {meth : Method} {c : Code} {b : Nat} (hx : p.tables.exec = Jvm.exec) (hb : c.code = code) (hr : meth.sig.returnType = ret) (hlocks : meth.locks = false) {pc : Nat} {H : Heap} {ls : Array Slot} (hdg : decode code pc = .ok (.ireturn, 1)) : W p l e room_1 s m #[Value.ref b] below meth c H [] 45 1765 (lw_Z below #[Value.ref b] s) (F0 m pc ls [.int 1]) := by
  intro T hT X
  obtain ⟨fs, hret, hrun, hended, hW, hframe⟩ := X.leave (v := some (.int 1)) (hlocks := hlocks) (fun h => by rw [hr] at h; cases h)
  have hmeth' : T.vm.method? m = some meth := X.method'
  refine ⟨T.setFrames fs, ?_, .returned (some (.int 1)), hrun, hended, rfl, ⟨_, rfl⟩, hW, hframe⟩
  jvm_step X.here [X.here.top, hx, hb, hdg, hmeth', hr, ret, narrow_b1]
  (try refine ⟨rfl, ?_⟩); (try refine ⟨rfl, ?_⟩)
  first | (intro acts; rw [hret _ acts rfl rfl rfl]) | rw [hret _ _ rfl rfl rfl]
  exact Steps.refl _
/-- what holds at the law's entry: the machine, the code, the tables' words (any of lw_tbl by 'hts w (by decide +kernel)'), the script of L ints xs at the cell b, what the Statement gives of the start (any of its parts by flat_of_before) -/
def lw_At (p : Program) (s : State) (m : MethodId) (meth : Method) (c : Code) (b L : Nat) (xs : Nat → Int32) : Prop :=
  p.tables.exec = Jvm.exec ∧ c.code = code ∧ meth.sig.returnType = ret ∧ c.maxLocals = 4 ∧ s.vm.findClass R_law = some m.cls ∧ (∀ w ∈ lw_tbl, w.before #[Value.ref b] s = true) ∧ va_X b L xs s s.heap ∧ b < s.heap.size ∧ meth.locks = false ∧ (Jvm.Cond.and given_1 narrow_1).before #[Value.ref b] s = true

def kn_Tg : List Cond := lw_tbl.filter (fun w => k2_isCode w || goodWord w)
theorem kn_Tg_of {w : Cond} (h : w ∈ lw_tbl) (hg : goodWord w = true) : w ∈ kn_Tg := List.mem_filter.mpr ⟨h, by simp [hg]⟩
theorem kn_Tg_code {y : MethodName} {bs : ByteArray} {n : Nat} {r : Option FieldType} {i : Nat} (h : lw_tbl[i]? = some (Cond.code y bs n r)) : Cond.code y bs n r ∈ kn_Tg := List.mem_filter.mpr ⟨List.mem_of_getElem? h, rfl⟩
theorem kn_Tg_good {w : Cond} (h : w ∈ kn_Tg) : (w.onTables && w.keeps) = true ∨ ∃ ty, w = .arrayClass ty := by
  obtain ⟨-, h2⟩ := List.mem_filter.mp h
  rcases Bool.or_eq_true_iff.mp h2 with h3 | h3
  · cases w <;> first | (cases h3; done) | exact Or.inl rfl
  · exact good_of_word h3
theorem kn_cl_ok : ∀ (ci : Nat) (q : vw_C), kn_cl[ci]? = some q → (∀ w ∈ u_ws q.1 q.2.1 q.2.2, w ∈ kn_Tg) ∧ (∃ ty0 : Nat → FieldType, ∀ k, k < q.2.2 → parseFieldDescriptor (q.2.1 k).2.2.1 = some (ty0 k)) ∧ (∀ a, a < q.2.2 → ∀ b, b < q.2.2 → a ≠ b → (q.2.1 a).2.1 ≠ (q.2.1 b).2.1) := by
  intro ci q hq
  match ci, hq with
  | 0, hq => cases hq; exact ⟨fun w hw => kn_Tg_of (kn0_in w hw).1 (kn0_in w hw).2, ⟨kt0, kn0_ty⟩, kn0_nm⟩
  | 1, hq => cases hq; exact ⟨fun w hw => kn_Tg_of (kn1_in w hw).1 (kn1_in w hw).2, ⟨kt1, kn1_ty⟩, kn1_nm⟩
  | 2, hq => cases hq; exact ⟨fun w hw => kn_Tg_of (kn2_in w hw).1 (kn2_in w hw).2, ⟨kt2, kn2_ty⟩, kn2_nm⟩
  | 3, hq => cases hq; exact ⟨fun w hw => kn_Tg_of (kn3_in w hw).1 (kn3_in w hw).2, ⟨kt3, kn3_ty⟩, kn3_nm⟩
  | 4, hq => cases hq; exact ⟨fun w hw => kn_Tg_of (kn4_in w hw).1 (kn4_in w hw).2, ⟨kt4, kn4_ty⟩, kn4_nm⟩
  | 5, hq => cases hq; exact ⟨fun w hw => kn_Tg_of (kn5_in w hw).1 (kn5_in w hw).2, ⟨kt5, kn5_ty⟩, kn5_nm⟩
  | 6, hq => cases hq; exact ⟨fun w hw => kn_Tg_of (kn6_in w hw).1 (kn6_in w hw).2, ⟨kt6, kn6_ty⟩, kn6_nm⟩
  | 7, hq => cases hq; exact ⟨fun w hw => kn_Tg_of (kn7_in w hw).1 (kn7_in w hw).2, ⟨kt7, kn7_ty⟩, kn7_nm⟩
  | n + 8, hq => simp [kn_cl] at hq
theorem kn_Ns_ok : ∀ w ∈ kn_Ns, ∃ (a : String) (i : Nat) (x : MethodName) (h : String), w = .methodLinkNest a i x h := by
  intro w hw
  simp only [kn_Ns, List.mem_cons, List.not_mem_nil, or_false] at hw
  rcases hw with rfl | rfl | rfl | rfl | rfl | rfl | rfl | rfl | rfl | rfl | rfl <;> exact ⟨_, _, _, _, rfl⟩
theorem kn_Ns_in : kn_Ns.map some = kn_Np.map (fun i => lw_tbl[i]?) := by decide +kernel
theorem kc_X0_init : lw_tbl[61]? = some (Cond.code km_X0_init.1 km_X0_init.2.1 km_X0_init.2.2.1 km_X0_init.2.2.2.1) := by decide +kernel
theorem kc_X0_add : lw_tbl[233]? = some (Cond.code km_X0_add.1 km_X0_add.2.1 km_X0_add.2.2.1 km_X0_add.2.2.2.1) := by decide +kernel
theorem kc_X0_owedBy : lw_tbl[269]? = some (Cond.code km_X0_owedBy.1 km_X0_owedBy.2.1 km_X0_owedBy.2.2.1 km_X0_owedBy.2.2.2.1) := by decide +kernel
theorem kc_X0_become : lw_tbl[330]? = some (Cond.code km_X0_become.1 km_X0_become.2.1 km_X0_become.2.2.1 km_X0_become.2.2.2.1) := by decide +kernel
theorem kc_X1_init : lw_tbl[146]? = some (Cond.code km_X1_init.1 km_X1_init.2.1 km_X1_init.2.2.1 km_X1_init.2.2.2.1) := by decide +kernel
theorem kc_X1_depthOf : lw_tbl[441]? = some (Cond.code km_X1_depthOf.1 km_X1_depthOf.2.1 km_X1_depthOf.2.2.1 km_X1_depthOf.2.2.2.1) := by decide +kernel
theorem kc_X1_deepest : lw_tbl[468]? = some (Cond.code km_X1_deepest.1 km_X1_deepest.2.1 km_X1_deepest.2.2.1 km_X1_deepest.2.2.2.1) := by decide +kernel
theorem kc_X1_fillDepths : lw_tbl[445]? = some (Cond.code km_X1_fillDepths.1 km_X1_fillDepths.2.1 km_X1_fillDepths.2.2.1 km_X1_fillDepths.2.2.2.1) := by decide +kernel
theorem kc_X1_deepestAmong : lw_tbl[450]? = some (Cond.code km_X1_deepestAmong.1 km_X1_deepestAmong.2.1 km_X1_deepestAmong.2.2.1 km_X1_deepestAmong.2.2.2.1) := by decide +kernel
theorem kc_X1_countOrders : lw_tbl[486]? = some (Cond.code km_X1_countOrders.1 km_X1_countOrders.2.1 km_X1_countOrders.2.2.1 km_X1_countOrders.2.2.2.1) := by decide +kernel
theorem kc_X1_countOrdersWith : lw_tbl[509]? = some (Cond.code km_X1_countOrdersWith.1 km_X1_countOrdersWith.2.1 km_X1_countOrdersWith.2.2.1 km_X1_countOrdersWith.2.2.2.1) := by decide +kernel
theorem kc_X1_fillBars : lw_tbl[490]? = some (Cond.code km_X1_fillBars.1 km_X1_fillBars.2.1 km_X1_fillBars.2.2.1 km_X1_fillBars.2.2.2.1) := by decide +kernel
theorem kc_X1_countWays : lw_tbl[494]? = some (Cond.code km_X1_countWays.1 km_X1_countWays.2.1 km_X1_countWays.2.2.1 km_X1_countWays.2.2.2.1) := by decide +kernel
theorem kc_X1_waysTo : lw_tbl[498]? = some (Cond.code km_X1_waysTo.1 km_X1_waysTo.2.1 km_X1_waysTo.2.2.1 km_X1_waysTo.2.2.2.1) := by decide +kernel
theorem kc_X2_init : lw_tbl[95]? = some (Cond.code km_X2_init.1 km_X2_init.2.1 km_X2_init.2.2.1 km_X2_init.2.2.2.1) := by decide +kernel
theorem kc_X2_makeRoom : lw_tbl[357]? = some (Cond.code km_X2_makeRoom.1 km_X2_makeRoom.2.1 km_X2_makeRoom.2.2.1 km_X2_makeRoom.2.2.2.1) := by decide +kernel
theorem kc_X2_become : lw_tbl[544]? = some (Cond.code km_X2_become.1 km_X2_become.2.1 km_X2_become.2.2.1 km_X2_become.2.2.2.1) := by decide +kernel
theorem kc_X3_init : lw_tbl[162]? = some (Cond.code km_X3_init.1 km_X3_init.2.1 km_X3_init.2.2.1 km_X3_init.2.2.2.1) := by decide +kernel
theorem kc_X3_addLetter : lw_tbl[281]? = some (Cond.code km_X3_addLetter.1 km_X3_addLetter.2.1 km_X3_addLetter.2.2.1 km_X3_addLetter.2.2.2.1) := by decide +kernel
theorem kc_X3_readTape : lw_tbl[289]? = some (Cond.code km_X3_readTape.1 km_X3_readTape.2.1 km_X3_readTape.2.2.1 km_X3_readTape.2.2.2.1) := by decide +kernel
theorem kc_X3_readClauses : lw_tbl[293]? = some (Cond.code km_X3_readClauses.1 km_X3_readClauses.2.1 km_X3_readClauses.2.2.1 km_X3_readClauses.2.2.2.1) := by decide +kernel
theorem kc_X3_readClause : lw_tbl[297]? = some (Cond.code km_X3_readClause.1 km_X3_readClause.2.1 km_X3_readClause.2.2.1 km_X3_readClause.2.2.2.1) := by decide +kernel
theorem kc_X3_readHolds : lw_tbl[312]? = some (Cond.code km_X3_readHolds.1 km_X3_readHolds.2.1 km_X3_readHolds.2.2.1 km_X3_readHolds.2.2.2.1) := by decide +kernel
theorem kc_X3_readBarred : lw_tbl[320]? = some (Cond.code km_X3_readBarred.1 km_X3_readBarred.2.1 km_X3_readBarred.2.2.1 km_X3_readBarred.2.2.2.1) := by decide +kernel
theorem kc_X3_nextLetter : lw_tbl[301]? = some (Cond.code km_X3_nextLetter.1 km_X3_nextLetter.2.1 km_X3_nextLetter.2.2.1 km_X3_nextLetter.2.2.2.1) := by decide +kernel
theorem kc_X3_letterAt : lw_tbl[305]? = some (Cond.code km_X3_letterAt.1 km_X3_letterAt.2.1 km_X3_letterAt.2.2.1 km_X3_letterAt.2.2.2.1) := by decide +kernel
theorem kc_X3_isDigit : lw_tbl[315]? = some (Cond.code km_X3_isDigit.1 km_X3_isDigit.2.1 km_X3_isDigit.2.2.1 km_X3_isDigit.2.2.2.1) := by decide +kernel
theorem kc_X3_kindOf : lw_tbl[308]? = some (Cond.code km_X3_kindOf.1 km_X3_kindOf.2.1 km_X3_kindOf.2.2.1 km_X3_kindOf.2.2.2.1) := by decide +kernel
theorem kc_X4_init : lw_tbl[55]? = some (Cond.code km_X4_init.1 km_X4_init.2.1 km_X4_init.2.2.1 km_X4_init.2.2.2.1) := by decide +kernel
theorem kc_X4_addClause : lw_tbl[229]? = some (Cond.code km_X4_addClause.1 km_X4_addClause.2.1 km_X4_addClause.2.2.1 km_X4_addClause.2.2.2.1) := by decide +kernel
theorem kc_X4_startWith : lw_tbl[326]? = some (Cond.code km_X4_startWith.1 km_X4_startWith.2.1 km_X4_startWith.2.2.1 km_X4_startWith.2.2.2.1) := by decide +kernel
theorem kc_X4_become : lw_tbl[540]? = some (Cond.code km_X4_become.1 km_X4_become.2.1 km_X4_become.2.2.1 km_X4_become.2.2.2.1) := by decide +kernel
theorem kc_X4_firmBy : lw_tbl[261]? = some (Cond.code km_X4_firmBy.1 km_X4_firmBy.2.1 km_X4_firmBy.2.2.1 km_X4_firmBy.2.2.2.1) := by decide +kernel
theorem kc_X4_firmOnDay : lw_tbl[257]? = some (Cond.code km_X4_firmOnDay.1 km_X4_firmOnDay.2.1 km_X4_firmOnDay.2.2.1 km_X4_firmOnDay.2.2.2.1) := by decide +kernel
theorem kc_X4_firmOf : lw_tbl[253]? = some (Cond.code km_X4_firmOf.1 km_X4_firmOf.2.1 km_X4_firmOf.2.2.1 km_X4_firmOf.2.2.2.1) := by decide +kernel
theorem kc_X4_firmTogether : lw_tbl[388]? = some (Cond.code km_X4_firmTogether.1 km_X4_firmTogether.2.1 km_X4_firmTogether.2.2.1 km_X4_firmTogether.2.2.2.1) := by decide +kernel
theorem kc_X4_weigh : lw_tbl[366]? = some (Cond.code km_X4_weigh.1 km_X4_weigh.2.1 km_X4_weigh.2.2.1 km_X4_weigh.2.2.2.1) := by decide +kernel
theorem kc_X4_freeAmong : lw_tbl[248]? = some (Cond.code km_X4_freeAmong.1 km_X4_freeAmong.2.1 km_X4_freeAmong.2.2.1 km_X4_freeAmong.2.2.2.1) := by decide +kernel
theorem kc_X4_fallsAmong : lw_tbl[371]? = some (Cond.code km_X4_fallsAmong.1 km_X4_fallsAmong.2.1 km_X4_fallsAmong.2.2.1 km_X4_fallsAmong.2.2.2.1) := by decide +kernel
theorem kc_X4_boundParties : lw_tbl[341]? = some (Cond.code km_X4_boundParties.1 km_X4_boundParties.2.1 km_X4_boundParties.2.2.1 km_X4_boundParties.2.2.2.1) := by decide +kernel
theorem kc_X4_neededFor : lw_tbl[434]? = some (Cond.code km_X4_neededFor.1 km_X4_neededFor.2.1 km_X4_neededFor.2.2.1 km_X4_neededFor.2.2.2.1) := by decide +kernel
theorem kc_X4_firmestUpTo : lw_tbl[430]? = some (Cond.code km_X4_firmestUpTo.1 km_X4_firmestUpTo.2.1 km_X4_firmestUpTo.2.2.1 km_X4_firmestUpTo.2.2.2.1) := by decide +kernel
theorem kc_X4_undoBy : lw_tbl[362]? = some (Cond.code km_X4_undoBy.1 km_X4_undoBy.2.1 km_X4_undoBy.2.2.1 km_X4_undoBy.2.2.2.1) := by decide +kernel
theorem kc_X4_driftOneDay : lw_tbl[400]? = some (Cond.code km_X4_driftOneDay.1 km_X4_driftOneDay.2.1 km_X4_driftOneDay.2.2.1 km_X4_driftOneDay.2.2.2.1) := by decide +kernel
theorem kc_X4_remember : lw_tbl[353]? = some (Cond.code km_X4_remember.1 km_X4_remember.2.1 km_X4_remember.2.2.1 km_X4_remember.2.2.2.1) := by decide +kernel
theorem kc_X4_takeBack : lw_tbl[412]? = some (Cond.code km_X4_takeBack.1 km_X4_takeBack.2.1 km_X4_takeBack.2.2.1 km_X4_takeBack.2.2.2.1) := by decide +kernel
theorem kc_X5_init : lw_tbl[184]? = some (Cond.code km_X5_init.1 km_X5_init.2.1 km_X5_init.2.2.1 km_X5_init.2.2.2.1) := by decide +kernel
theorem kc_X5_lay : lw_tbl[607]? = some (Cond.code km_X5_lay.1 km_X5_lay.2.1 km_X5_lay.2.2.1 km_X5_lay.2.2.2.1) := by decide +kernel
theorem kc_X5_takeAway : lw_tbl[616]? = some (Cond.code km_X5_takeAway.1 km_X5_takeAway.2.1 km_X5_takeAway.2.2.1 km_X5_takeAway.2.2.2.1) := by decide +kernel
theorem kc_X5_faultOf : lw_tbl[562]? = some (Cond.code km_X5_faultOf.1 km_X5_faultOf.2.1 km_X5_faultOf.2.2.1 km_X5_faultOf.2.2.2.1) := by decide +kernel
theorem kc_X5_isInside : lw_tbl[566]? = some (Cond.code km_X5_isInside.1 km_X5_isInside.2.1 km_X5_isInside.2.2.1 km_X5_isInside.2.2.2.1) := by decide +kernel
theorem kc_X5_get : lw_tbl[574]? = some (Cond.code km_X5_get.1 km_X5_get.2.1 km_X5_get.2.2.1 km_X5_get.2.2.2.1) := by decide +kernel
theorem kc_X5_put : lw_tbl[596]? = some (Cond.code km_X5_put.1 km_X5_put.2.1 km_X5_put.2.2.1 km_X5_put.2.2.2.1) := by decide +kernel
theorem kc_X5_lowestBits : lw_tbl[599]? = some (Cond.code km_X5_lowestBits.1 km_X5_lowestBits.2.1 km_X5_lowestBits.2.2.1 km_X5_lowestBits.2.2.2.1) := by decide +kernel
theorem kc_X5_carry : lw_tbl[628]? = some (Cond.code km_X5_carry.1 km_X5_carry.2.1 km_X5_carry.2.2.1 km_X5_carry.2.2.2.1) := by decide +kernel
theorem kc_X6_init : lw_tbl[47]? = some (Cond.code km_X6_init.1 km_X6_init.2.1 km_X6_init.2.2.1 km_X6_init.2.2.2.1) := by decide +kernel
theorem kc_X6_clause : lw_tbl[219]? = some (Cond.code km_X6_clause.1 km_X6_clause.2.1 km_X6_clause.2.2.1 km_X6_clause.2.2.2.1) := by decide +kernel
theorem kc_X6_of : lw_tbl[237]? = some (Cond.code km_X6_of.1 km_X6_of.2.1 km_X6_of.2.2.1 km_X6_of.2.2.2.1) := by decide +kernel
theorem kc_X6_party : lw_tbl[265]? = some (Cond.code km_X6_party.1 km_X6_party.2.1 km_X6_party.2.2.1 km_X6_party.2.2.2.1) := by decide +kernel
theorem kc_X6_owe : lw_tbl[273]? = some (Cond.code km_X6_owe.1 km_X6_owe.2.1 km_X6_owe.2.2.1 km_X6_owe.2.2.2.1) := by decide +kernel
theorem kc_X6_type : lw_tbl[277]? = some (Cond.code km_X6_type.1 km_X6_type.2.1 km_X6_type.2.2.1 km_X6_type.2.2.2.1) := by decide +kernel
theorem kc_X6_agreement : lw_tbl[285]? = some (Cond.code km_X6_agreement.1 km_X6_agreement.2.1 km_X6_agreement.2.2.1 km_X6_agreement.2.2.2.1) := by decide +kernel
theorem kc_X6_count : lw_tbl[337]? = some (Cond.code km_X6_count.1 km_X6_count.2.1 km_X6_count.2.2.1 km_X6_count.2.2.2.1) := by decide +kernel
theorem kc_X6_pull : lw_tbl[346]? = some (Cond.code km_X6_pull.1 km_X6_pull.2.1 km_X6_pull.2.2.1 km_X6_pull.2.2.2.1) := by decide +kernel
theorem kc_X6_cut : lw_tbl[376]? = some (Cond.code km_X6_cut.1 km_X6_cut.2.1 km_X6_cut.2.2.1 km_X6_cut.2.2.2.1) := by decide +kernel
theorem kc_X6_tie : lw_tbl[380]? = some (Cond.code km_X6_tie.1 km_X6_tie.2.1 km_X6_tie.2.2.1 km_X6_tie.2.2.2.1) := by decide +kernel
theorem kc_X6_wet : lw_tbl[384]? = some (Cond.code km_X6_wet.1 km_X6_wet.2.1 km_X6_wet.2.2.1 km_X6_wet.2.2.2.1) := by decide +kernel
theorem kc_X6_days : lw_tbl[392]? = some (Cond.code km_X6_days.1 km_X6_days.2.1 km_X6_days.2.2.1 km_X6_days.2.2.2.1) := by decide +kernel
theorem kc_X6_drift : lw_tbl[396]? = some (Cond.code km_X6_drift.1 km_X6_drift.2.1 km_X6_drift.2.2.1 km_X6_drift.2.2.2.1) := by decide +kernel
theorem kc_X6_undo : lw_tbl[408]? = some (Cond.code km_X6_undo.1 km_X6_undo.2.1 km_X6_undo.2.2.1 km_X6_undo.2.2.2.1) := by decide +kernel
theorem kc_X6_seed : lw_tbl[416]? = some (Cond.code km_X6_seed.1 km_X6_seed.2.1 km_X6_seed.2.2.1 km_X6_seed.2.2.2.1) := by decide +kernel
theorem kc_X6_falls : lw_tbl[420]? = some (Cond.code km_X6_falls.1 km_X6_falls.2.1 km_X6_falls.2.2.1 km_X6_falls.2.2.2.1) := by decide +kernel
theorem kc_X6_pulls : lw_tbl[426]? = some (Cond.code km_X6_pulls.1 km_X6_pulls.2.1 km_X6_pulls.2.2.1 km_X6_pulls.2.2.2.1) := by decide +kernel
theorem kc_X6_force : lw_tbl[455]? = some (Cond.code km_X6_force.1 km_X6_force.2.1 km_X6_force.2.2.1 km_X6_force.2.2.2.1) := by decide +kernel
theorem kc_X6_needs : lw_tbl[459]? = some (Cond.code km_X6_needs.1 km_X6_needs.2.1 km_X6_needs.2.2.1 km_X6_needs.2.2.2.1) := by decide +kernel
theorem kc_X6_deep : lw_tbl[464]? = some (Cond.code km_X6_deep.1 km_X6_deep.2.1 km_X6_deep.2.2.1 km_X6_deep.2.2.2.1) := by decide +kernel
theorem kc_X6_frees : lw_tbl[472]? = some (Cond.code km_X6_frees.1 km_X6_frees.2.1 km_X6_frees.2.2.1 km_X6_frees.2.2.2.1) := by decide +kernel
theorem kc_X6_orders : lw_tbl[482]? = some (Cond.code km_X6_orders.1 km_X6_orders.2.1 km_X6_orders.2.2.1 km_X6_orders.2.2.2.1) := by decide +kernel
theorem kc_X6_ahead : lw_tbl[505]? = some (Cond.code km_X6_ahead.1 km_X6_ahead.2.1 km_X6_ahead.2.2.1 km_X6_ahead.2.2.2.1) := by decide +kernel
theorem kc_X6_game : lw_tbl[513]? = some (Cond.code km_X6_game.1 km_X6_game.2.1 km_X6_game.2.2.1 km_X6_game.2.2.2.1) := by decide +kernel
theorem kc_X6_cuts : lw_tbl[517]? = some (Cond.code km_X6_cuts.1 km_X6_cuts.2.1 km_X6_cuts.2.2.1 km_X6_cuts.2.2.2.1) := by decide +kernel
theorem kc_X6_weather : lw_tbl[521]? = some (Cond.code km_X6_weather.1 km_X6_weather.2.1 km_X6_weather.2.2.1 km_X6_weather.2.2.2.1) := by decide +kernel
theorem kc_X6_rotten : lw_tbl[526]? = some (Cond.code km_X6_rotten.1 km_X6_rotten.2.1 km_X6_rotten.2.2.1 km_X6_rotten.2.2.2.1) := by decide +kernel
theorem kc_X6_image : lw_tbl[536]? = some (Cond.code km_X6_image.1 km_X6_image.2.1 km_X6_image.2.2.1 km_X6_image.2.2.2.1) := by decide +kernel
theorem kc_X6_restore : lw_tbl[548]? = some (Cond.code km_X6_restore.1 km_X6_restore.2.1 km_X6_restore.2.2.1 km_X6_restore.2.2.2.1) := by decide +kernel
theorem kc_X6_felt : lw_tbl[552]? = some (Cond.code km_X6_felt.1 km_X6_felt.2.1 km_X6_felt.2.2.1 km_X6_felt.2.2.2.1) := by decide +kernel
theorem kc_X6_film : lw_tbl[592]? = some (Cond.code km_X6_film.1 km_X6_film.2.1 km_X6_film.2.2.1 km_X6_film.2.2.2.1) := by decide +kernel
theorem kc_X6_sheet : lw_tbl[603]? = some (Cond.code km_X6_sheet.1 km_X6_sheet.2.1 km_X6_sheet.2.2.1 km_X6_sheet.2.2.2.1) := by decide +kernel
theorem kc_X6_drop : lw_tbl[612]? = some (Cond.code km_X6_drop.1 km_X6_drop.2.1 km_X6_drop.2.2.1 km_X6_drop.2.2.2.1) := by decide +kernel
theorem kc_X6_item : lw_tbl[620]? = some (Cond.code km_X6_item.1 km_X6_item.2.1 km_X6_item.2.2.1 km_X6_item.2.2.2.1) := by decide +kernel
theorem kc_X6_copy : lw_tbl[624]? = some (Cond.code km_X6_copy.1 km_X6_copy.2.1 km_X6_copy.2.2.1 km_X6_copy.2.2.2.1) := by decide +kernel
theorem kc_X6_isWithin : lw_tbl[222]? = some (Cond.code km_X6_isWithin.1 km_X6_isWithin.2.1 km_X6_isWithin.2.2.1 km_X6_isWithin.2.2.2.1) := by decide +kernel
theorem kc_X6_isForce : lw_tbl[349]? = some (Cond.code km_X6_isForce.1 km_X6_isForce.2.1 km_X6_isForce.2.2.1 km_X6_isForce.2.2.2.1) := by decide +kernel
theorem kc_X6_isParty : lw_tbl[225]? = some (Cond.code km_X6_isParty.1 km_X6_isParty.2.1 km_X6_isParty.2.2.1 km_X6_isParty.2.2.2.1) := by decide +kernel
theorem kc_X6_isSheet : lw_tbl[555]? = some (Cond.code km_X6_isSheet.1 km_X6_isSheet.2.1 km_X6_isSheet.2.2.1 km_X6_isSheet.2.2.2.1) := by decide +kernel
theorem kc_X6_isLane : lw_tbl[558]? = some (Cond.code km_X6_isLane.1 km_X6_isLane.2.1 km_X6_isLane.2.2.1 km_X6_isLane.2.2.2.1) := by decide +kernel
theorem kc_X6_isClause : lw_tbl[241]? = some (Cond.code km_X6_isClause.1 km_X6_isClause.2.1 km_X6_isClause.2.2.1 km_X6_isClause.2.2.2.1) := by decide +kernel
theorem kc_X6_has : lw_tbl[244]? = some (Cond.code km_X6_has.1 km_X6_has.2.1 km_X6_has.2.2.1 km_X6_has.2.2.2.1) := by decide +kernel
theorem kc_X6_nthOf : lw_tbl[501]? = some (Cond.code km_X6_nthOf.1 km_X6_nthOf.2.1 km_X6_nthOf.2.2.1 km_X6_nthOf.2.2.2.1) := by decide +kernel
theorem kc_X6_powerOf : lw_tbl[529]? = some (Cond.code km_X6_powerOf.1 km_X6_powerOf.2.1 km_X6_powerOf.2.2.1 km_X6_powerOf.2.2.2.1) := by decide +kernel
theorem kc_X6_lowestPartOf : lw_tbl[532]? = some (Cond.code km_X6_lowestPartOf.1 km_X6_lowestPartOf.2.1 km_X6_lowestPartOf.2.2.1 km_X6_lowestPartOf.2.2.2.1) := by decide +kernel
theorem kc_X6_areForces : lw_tbl[570]? = some (Cond.code km_X6_areForces.1 km_X6_areForces.2.1 km_X6_areForces.2.2.1 km_X6_areForces.2.2.2.1) := by decide +kernel
theorem kc_X6_kindsFelt : lw_tbl[579]? = some (Cond.code km_X6_kindsFelt.1 km_X6_kindsFelt.2.1 km_X6_kindsFelt.2.2.1 km_X6_kindsFelt.2.2.2.1) := by decide +kernel
theorem kc_X6_holdsFelt : lw_tbl[588]? = some (Cond.code km_X6_holdsFelt.1 km_X6_holdsFelt.2.1 km_X6_holdsFelt.2.2.1 km_X6_holdsFelt.2.2.2.1) := by decide +kernel
theorem kc_X6_isAsTold : lw_tbl[584]? = some (Cond.code km_X6_isAsTold.1 km_X6_isAsTold.2.1 km_X6_isAsTold.2.2.1 km_X6_isAsTold.2.2.2.1) := by decide +kernel
theorem kc_X7_init : lw_tbl[634]? = some (Cond.code km_X7_init.1 km_X7_init.2.1 km_X7_init.2.2.1 km_X7_init.2.2.2.1) := by decide +kernel
theorem kc_X7_in : lw_tbl[686]? = some (Cond.code km_X7_in.1 km_X7_in.2.1 km_X7_in.2.2.1 km_X7_in.2.2.2.1) := by decide +kernel
theorem kc_X7_has : lw_tbl[703]? = some (Cond.code km_X7_has.1 km_X7_has.2.1 km_X7_has.2.2.1 km_X7_has.2.2.2.1) := by decide +kernel
theorem kc_X7_bits : lw_tbl[851]? = some (Cond.code km_X7_bits.1 km_X7_bits.2.1 km_X7_bits.2.2.1 km_X7_bits.2.2.2.1) := by decide +kernel
theorem kc_X7_bring : lw_tbl[759]? = some (Cond.code km_X7_bring.1 km_X7_bring.2.1 km_X7_bring.2.2.1 km_X7_bring.2.2.2.1) := by decide +kernel
theorem kc_X7_isClause : lw_tbl[697]? = some (Cond.code km_X7_isClause.1 km_X7_isClause.2.1 km_X7_isClause.2.2.1 km_X7_isClause.2.2.2.1) := by decide +kernel
theorem kc_X7_add : lw_tbl[689]? = some (Cond.code km_X7_add.1 km_X7_add.2.1 km_X7_add.2.2.1 km_X7_add.2.2.2.1) := by decide +kernel
theorem kc_X7_clause : lw_tbl[683]? = some (Cond.code km_X7_clause.1 km_X7_clause.2.1 km_X7_clause.2.2.1 km_X7_clause.2.2.2.1) := by decide +kernel
theorem kc_X7_firmBy : lw_tbl[709]? = some (Cond.code km_X7_firmBy.1 km_X7_firmBy.2.1 km_X7_firmBy.2.2.1 km_X7_firmBy.2.2.2.1) := by decide +kernel
theorem kc_X7_firm : lw_tbl[706]? = some (Cond.code km_X7_firm.1 km_X7_firm.2.1 km_X7_firm.2.2.1 km_X7_firm.2.2.2.1) := by decide +kernel
theorem kc_X7_isFree : lw_tbl[700]? = some (Cond.code km_X7_isFree.1 km_X7_isFree.2.1 km_X7_isFree.2.2.1 km_X7_isFree.2.2.2.1) := by decide +kernel
theorem kc_X7_of : lw_tbl[693]? = some (Cond.code km_X7_of.1 km_X7_of.2.1 km_X7_of.2.2.1 km_X7_of.2.2.2.1) := by decide +kernel
theorem kc_X7_owedBy : lw_tbl[717]? = some (Cond.code km_X7_owedBy.1 km_X7_owedBy.2.1 km_X7_owedBy.2.2.1 km_X7_owedBy.2.2.2.1) := by decide +kernel
theorem kc_X7_party : lw_tbl[713]? = some (Cond.code km_X7_party.1 km_X7_party.2.1 km_X7_party.2.2.1 km_X7_party.2.2.2.1) := by decide +kernel
theorem kc_X7_owe : lw_tbl[721]? = some (Cond.code km_X7_owe.1 km_X7_owe.2.1 km_X7_owe.2.2.1 km_X7_owe.2.2.2.1) := by decide +kernel
theorem kc_X7_type : lw_tbl[725]? = some (Cond.code km_X7_type.1 km_X7_type.2.1 km_X7_type.2.2.1 km_X7_type.2.2.2.1) := by decide +kernel
theorem kc_X7_peek : lw_tbl[741]? = some (Cond.code km_X7_peek.1 km_X7_peek.2.1 km_X7_peek.2.2.1 km_X7_peek.2.2.2.1) := by decide +kernel
theorem kc_X7_isSign : lw_tbl[756]? = some (Cond.code km_X7_isSign.1 km_X7_isSign.2.1 km_X7_isSign.2.2.1 km_X7_isSign.2.2.2.1) := by decide +kernel
theorem kc_X7_isDigit : lw_tbl[752]? = some (Cond.code km_X7_isDigit.1 km_X7_isDigit.2.1 km_X7_isDigit.2.2.1 km_X7_isDigit.2.2.2.1) := by decide +kernel
theorem kc_X7_isNumber : lw_tbl[748]? = some (Cond.code km_X7_isNumber.1 km_X7_isNumber.2.1 km_X7_isNumber.2.2.1 km_X7_isNumber.2.2.2.1) := by decide +kernel
theorem kc_X7_kindBy : lw_tbl[744]? = some (Cond.code km_X7_kindBy.1 km_X7_kindBy.2.1 km_X7_kindBy.2.2.1 km_X7_kindBy.2.2.2.1) := by decide +kernel
theorem kc_X7_isClauseItem : lw_tbl[737]? = some (Cond.code km_X7_isClauseItem.1 km_X7_isClauseItem.2.1 km_X7_isClauseItem.2.2.1 km_X7_isClauseItem.2.2.2.1) := by decide +kernel
theorem kc_X7_isAgreement : lw_tbl[733]? = some (Cond.code km_X7_isAgreement.1 km_X7_isAgreement.2.1 km_X7_isAgreement.2.2.1 km_X7_isAgreement.2.2.2.1) := by decide +kernel
theorem kc_X7_agreement : lw_tbl[729]? = some (Cond.code km_X7_agreement.1 km_X7_agreement.2.1 km_X7_agreement.2.2.1 km_X7_agreement.2.2.2.1) := by decide +kernel
theorem kc_X7_freeIn : lw_tbl[766]? = some (Cond.code km_X7_freeIn.1 km_X7_freeIn.2.1 km_X7_freeIn.2.2.1 km_X7_freeIn.2.2.2.1) := by decide +kernel
theorem kc_X7_boundOnes : lw_tbl[770]? = some (Cond.code km_X7_boundOnes.1 km_X7_boundOnes.2.1 km_X7_boundOnes.2.2.1 km_X7_boundOnes.2.2.2.1) := by decide +kernel
theorem kc_X7_count : lw_tbl[763]? = some (Cond.code km_X7_count.1 km_X7_count.2.1 km_X7_count.2.2.1 km_X7_count.2.2.2.1) := by decide +kernel
theorem kc_X7_note : lw_tbl[778]? = some (Cond.code km_X7_note.1 km_X7_note.2.1 km_X7_note.2.2.1 km_X7_note.2.2.2.1) := by decide +kernel
theorem kc_X7_fallsIn : lw_tbl[784]? = some (Cond.code km_X7_fallsIn.1 km_X7_fallsIn.2.1 km_X7_fallsIn.2.2.1 km_X7_fallsIn.2.2.2.1) := by decide +kernel
theorem kc_X7_pullIn : lw_tbl[781]? = some (Cond.code km_X7_pullIn.1 km_X7_pullIn.2.1 km_X7_pullIn.2.2.1 km_X7_pullIn.2.2.2.1) := by decide +kernel
theorem kc_X7_pull : lw_tbl[774]? = some (Cond.code km_X7_pull.1 km_X7_pull.2.1 km_X7_pull.2.2.1 km_X7_pull.2.2.2.1) := by decide +kernel
theorem kc_X7_cut : lw_tbl[788]? = some (Cond.code km_X7_cut.1 km_X7_cut.2.1 km_X7_cut.2.2.1 km_X7_cut.2.2.2.1) := by decide +kernel
theorem kc_X7_tie : lw_tbl[792]? = some (Cond.code km_X7_tie.1 km_X7_tie.2.1 km_X7_tie.2.2.1 km_X7_tie.2.2.2.1) := by decide +kernel
theorem kc_X7_wet : lw_tbl[796]? = some (Cond.code km_X7_wet.1 km_X7_wet.2.1 km_X7_wet.2.2.1 km_X7_wet.2.2.2.1) := by decide +kernel
theorem kc_X7_days : lw_tbl[800]? = some (Cond.code km_X7_days.1 km_X7_days.2.1 km_X7_days.2.2.1 km_X7_days.2.2.2.1) := by decide +kernel
theorem kc_X7_drift : lw_tbl[804]? = some (Cond.code km_X7_drift.1 km_X7_drift.2.1 km_X7_drift.2.2.1 km_X7_drift.2.2.2.1) := by decide +kernel
theorem kc_X7_undo : lw_tbl[812]? = some (Cond.code km_X7_undo.1 km_X7_undo.2.1 km_X7_undo.2.2.1 km_X7_undo.2.2.2.1) := by decide +kernel
theorem kc_X7_seed : lw_tbl[816]? = some (Cond.code km_X7_seed.1 km_X7_seed.2.1 km_X7_seed.2.2.1 km_X7_seed.2.2.2.1) := by decide +kernel
theorem kc_X7_begin : lw_tbl[828]? = some (Cond.code km_X7_begin.1 km_X7_begin.2.1 km_X7_begin.2.2.1 km_X7_begin.2.2.2.1) := by decide +kernel
theorem kc_X7_falls : lw_tbl[820]? = some (Cond.code km_X7_falls.1 km_X7_falls.2.1 km_X7_falls.2.2.1 km_X7_falls.2.2.2.1) := by decide +kernel
theorem kc_X7_pulls : lw_tbl[824]? = some (Cond.code km_X7_pulls.1 km_X7_pulls.2.1 km_X7_pulls.2.2.1 km_X7_pulls.2.2.2.1) := by decide +kernel
theorem kc_X7_force : lw_tbl[832]? = some (Cond.code km_X7_force.1 km_X7_force.2.1 km_X7_force.2.2.1 km_X7_force.2.2.2.1) := by decide +kernel
theorem kc_X7_needsOf : lw_tbl[840]? = some (Cond.code km_X7_needsOf.1 km_X7_needsOf.2.1 km_X7_needsOf.2.2.1 km_X7_needsOf.2.2.2.1) := by decide +kernel
theorem kc_X7_needs : lw_tbl[836]? = some (Cond.code km_X7_needs.1 km_X7_needs.2.1 km_X7_needs.2.2.1 km_X7_needs.2.2.2.1) := by decide +kernel
theorem kc_X7_deep : lw_tbl[844]? = some (Cond.code km_X7_deep.1 km_X7_deep.2.1 km_X7_deep.2.2.1 km_X7_deep.2.2.2.1) := by decide +kernel
theorem kc_X7_frees : lw_tbl[848]? = some (Cond.code km_X7_frees.1 km_X7_frees.2.1 km_X7_frees.2.2.1 km_X7_frees.2.2.2.1) := by decide +kernel
theorem kc_X7_layWays : lw_tbl[859]? = some (Cond.code km_X7_layWays.1 km_X7_layWays.2.1 km_X7_layWays.2.2.1 km_X7_layWays.2.2.2.1) := by decide +kernel
theorem kc_X7_orders : lw_tbl[855]? = some (Cond.code km_X7_orders.1 km_X7_orders.2.1 km_X7_orders.2.2.1 km_X7_orders.2.2.2.1) := by decide +kernel
theorem kc_X7_partOf : lw_tbl[866]? = some (Cond.code km_X7_partOf.1 km_X7_partOf.2.1 km_X7_partOf.2.2.1 km_X7_partOf.2.2.2.1) := by decide +kernel
theorem kc_X7_ahead : lw_tbl[863]? = some (Cond.code km_X7_ahead.1 km_X7_ahead.2.1 km_X7_ahead.2.2.1 km_X7_ahead.2.2.2.1) := by decide +kernel
theorem kc_X7_game : lw_tbl[870]? = some (Cond.code km_X7_game.1 km_X7_game.2.1 km_X7_game.2.2.1 km_X7_game.2.2.2.1) := by decide +kernel
theorem kc_X7_cuts : lw_tbl[874]? = some (Cond.code km_X7_cuts.1 km_X7_cuts.2.1 km_X7_cuts.2.2.1 km_X7_cuts.2.2.2.1) := by decide +kernel
theorem kc_X7_weather : lw_tbl[878]? = some (Cond.code km_X7_weather.1 km_X7_weather.2.1 km_X7_weather.2.2.1 km_X7_weather.2.2.2.1) := by decide +kernel
theorem kc_X7_rotten : lw_tbl[882]? = some (Cond.code km_X7_rotten.1 km_X7_rotten.2.1 km_X7_rotten.2.2.1 km_X7_rotten.2.2.2.1) := by decide +kernel
theorem kc_X7_image : lw_tbl[886]? = some (Cond.code km_X7_image.1 km_X7_image.2.1 km_X7_image.2.2.1 km_X7_image.2.2.2.1) := by decide +kernel
theorem kc_X7_restore : lw_tbl[890]? = some (Cond.code km_X7_restore.1 km_X7_restore.2.1 km_X7_restore.2.2.1 km_X7_restore.2.2.2.1) := by decide +kernel
theorem kc_X7_isSheet : lw_tbl[897]? = some (Cond.code km_X7_isSheet.1 km_X7_isSheet.2.1 km_X7_isSheet.2.2.1 km_X7_isSheet.2.2.2.1) := by decide +kernel
theorem kc_X7_isPart : lw_tbl[904]? = some (Cond.code km_X7_isPart.1 km_X7_isPart.2.1 km_X7_isPart.2.2.1 km_X7_isPart.2.2.2.1) := by decide +kernel
theorem kc_X7_wrong : lw_tbl[901]? = some (Cond.code km_X7_wrong.1 km_X7_wrong.2.1 km_X7_wrong.2.2.1 km_X7_wrong.2.2.2.1) := by decide +kernel
theorem kc_X7_felt : lw_tbl[894]? = some (Cond.code km_X7_felt.1 km_X7_felt.2.1 km_X7_felt.2.2.1 km_X7_felt.2.2.2.1) := by decide +kernel
theorem kc_X7_film : lw_tbl[909]? = some (Cond.code km_X7_film.1 km_X7_film.2.1 km_X7_film.2.2.1 km_X7_film.2.2.2.1) := by decide +kernel
theorem kc_X7_sheet : lw_tbl[913]? = some (Cond.code km_X7_sheet.1 km_X7_sheet.2.1 km_X7_sheet.2.2.1 km_X7_sheet.2.2.2.1) := by decide +kernel
theorem kc_X7_drop : lw_tbl[917]? = some (Cond.code km_X7_drop.1 km_X7_drop.2.1 km_X7_drop.2.2.1 km_X7_drop.2.2.2.1) := by decide +kernel
theorem kc_X7_item : lw_tbl[921]? = some (Cond.code km_X7_item.1 km_X7_item.2.1 km_X7_item.2.2.1 km_X7_item.2.2.2.1) := by decide +kernel
theorem kc_X7_copy : lw_tbl[925]? = some (Cond.code km_X7_copy.1 km_X7_copy.2.1 km_X7_copy.2.2.1 km_X7_copy.2.2.2.1) := by decide +kernel
theorem kc_J6_bitCount_0f7a4 : lw_tbl[475]? = some (Cond.code km_J6_bitCount_0f7a4.1 km_J6_bitCount_0f7a4.2.1 km_J6_bitCount_0f7a4.2.2.1 km_J6_bitCount_0f7a4.2.2.2.1) := by decide +kernel
theorem kn_T_ok : ∀ M1 ∈ kn_T, Cond.code M1.1 M1.2.1 M1.2.2.1 M1.2.2.2.1 ∈ kn_Tg ∧ plainName M1.1.cls = true ∧ kn_okM kn_cl lw_tbl kn_Ns kn_T M1 = true := by
  unfold kn_T
  refine List.forall_mem_cons.mpr ⟨⟨kn_Tg_code kc_X0_init, by decide +kernel, ok_X0_init⟩, ?_⟩
  refine List.forall_mem_cons.mpr ⟨⟨kn_Tg_code kc_X0_add, by decide +kernel, ok_X0_add⟩, ?_⟩
  refine List.forall_mem_cons.mpr ⟨⟨kn_Tg_code kc_X0_owedBy, by decide +kernel, ok_X0_owedBy⟩, ?_⟩
  refine List.forall_mem_cons.mpr ⟨⟨kn_Tg_code kc_X0_become, by decide +kernel, ok_X0_become⟩, ?_⟩
  refine List.forall_mem_cons.mpr ⟨⟨kn_Tg_code kc_X1_init, by decide +kernel, ok_X1_init⟩, ?_⟩
  refine List.forall_mem_cons.mpr ⟨⟨kn_Tg_code kc_X1_depthOf, by decide +kernel, ok_X1_depthOf⟩, ?_⟩
  refine List.forall_mem_cons.mpr ⟨⟨kn_Tg_code kc_X1_deepest, by decide +kernel, ok_X1_deepest⟩, ?_⟩
  refine List.forall_mem_cons.mpr ⟨⟨kn_Tg_code kc_X1_fillDepths, by decide +kernel, ok_X1_fillDepths⟩, ?_⟩
  refine List.forall_mem_cons.mpr ⟨⟨kn_Tg_code kc_X1_deepestAmong, by decide +kernel, ok_X1_deepestAmong⟩, ?_⟩
  refine List.forall_mem_cons.mpr ⟨⟨kn_Tg_code kc_X1_countOrders, by decide +kernel, ok_X1_countOrders⟩, ?_⟩
  refine List.forall_mem_cons.mpr ⟨⟨kn_Tg_code kc_X1_countOrdersWith, by decide +kernel, ok_X1_countOrdersWith⟩, ?_⟩
  refine List.forall_mem_cons.mpr ⟨⟨kn_Tg_code kc_X1_fillBars, by decide +kernel, ok_X1_fillBars⟩, ?_⟩
  refine List.forall_mem_cons.mpr ⟨⟨kn_Tg_code kc_X1_countWays, by decide +kernel, ok_X1_countWays⟩, ?_⟩
  refine List.forall_mem_cons.mpr ⟨⟨kn_Tg_code kc_X1_waysTo, by decide +kernel, ok_X1_waysTo⟩, ?_⟩
  refine List.forall_mem_cons.mpr ⟨⟨kn_Tg_code kc_X2_init, by decide +kernel, ok_X2_init⟩, ?_⟩
  refine List.forall_mem_cons.mpr ⟨⟨kn_Tg_code kc_X2_makeRoom, by decide +kernel, ok_X2_makeRoom⟩, ?_⟩
  refine List.forall_mem_cons.mpr ⟨⟨kn_Tg_code kc_X2_become, by decide +kernel, ok_X2_become⟩, ?_⟩
  refine List.forall_mem_cons.mpr ⟨⟨kn_Tg_code kc_X3_init, by decide +kernel, ok_X3_init⟩, ?_⟩
  refine List.forall_mem_cons.mpr ⟨⟨kn_Tg_code kc_X3_addLetter, by decide +kernel, ok_X3_addLetter⟩, ?_⟩
  refine List.forall_mem_cons.mpr ⟨⟨kn_Tg_code kc_X3_readTape, by decide +kernel, ok_X3_readTape⟩, ?_⟩
  refine List.forall_mem_cons.mpr ⟨⟨kn_Tg_code kc_X3_readClauses, by decide +kernel, ok_X3_readClauses⟩, ?_⟩
  refine List.forall_mem_cons.mpr ⟨⟨kn_Tg_code kc_X3_readClause, by decide +kernel, ok_X3_readClause⟩, ?_⟩
  refine List.forall_mem_cons.mpr ⟨⟨kn_Tg_code kc_X3_readHolds, by decide +kernel, ok_X3_readHolds⟩, ?_⟩
  refine List.forall_mem_cons.mpr ⟨⟨kn_Tg_code kc_X3_readBarred, by decide +kernel, ok_X3_readBarred⟩, ?_⟩
  refine List.forall_mem_cons.mpr ⟨⟨kn_Tg_code kc_X3_nextLetter, by decide +kernel, ok_X3_nextLetter⟩, ?_⟩
  refine List.forall_mem_cons.mpr ⟨⟨kn_Tg_code kc_X3_letterAt, by decide +kernel, ok_X3_letterAt⟩, ?_⟩
  refine List.forall_mem_cons.mpr ⟨⟨kn_Tg_code kc_X3_isDigit, by decide +kernel, ok_X3_isDigit⟩, ?_⟩
  refine List.forall_mem_cons.mpr ⟨⟨kn_Tg_code kc_X3_kindOf, by decide +kernel, ok_X3_kindOf⟩, ?_⟩
  refine List.forall_mem_cons.mpr ⟨⟨kn_Tg_code kc_X4_init, by decide +kernel, ok_X4_init⟩, ?_⟩
  refine List.forall_mem_cons.mpr ⟨⟨kn_Tg_code kc_X4_addClause, by decide +kernel, ok_X4_addClause⟩, ?_⟩
  refine List.forall_mem_cons.mpr ⟨⟨kn_Tg_code kc_X4_startWith, by decide +kernel, ok_X4_startWith⟩, ?_⟩
  refine List.forall_mem_cons.mpr ⟨⟨kn_Tg_code kc_X4_become, by decide +kernel, ok_X4_become⟩, ?_⟩
  refine List.forall_mem_cons.mpr ⟨⟨kn_Tg_code kc_X4_firmBy, by decide +kernel, ok_X4_firmBy⟩, ?_⟩
  refine List.forall_mem_cons.mpr ⟨⟨kn_Tg_code kc_X4_firmOnDay, by decide +kernel, ok_X4_firmOnDay⟩, ?_⟩
  refine List.forall_mem_cons.mpr ⟨⟨kn_Tg_code kc_X4_firmOf, by decide +kernel, ok_X4_firmOf⟩, ?_⟩
  refine List.forall_mem_cons.mpr ⟨⟨kn_Tg_code kc_X4_firmTogether, by decide +kernel, ok_X4_firmTogether⟩, ?_⟩
  refine List.forall_mem_cons.mpr ⟨⟨kn_Tg_code kc_X4_weigh, by decide +kernel, ok_X4_weigh⟩, ?_⟩
  refine List.forall_mem_cons.mpr ⟨⟨kn_Tg_code kc_X4_freeAmong, by decide +kernel, ok_X4_freeAmong⟩, ?_⟩
  refine List.forall_mem_cons.mpr ⟨⟨kn_Tg_code kc_X4_fallsAmong, by decide +kernel, ok_X4_fallsAmong⟩, ?_⟩
  refine List.forall_mem_cons.mpr ⟨⟨kn_Tg_code kc_X4_boundParties, by decide +kernel, ok_X4_boundParties⟩, ?_⟩
  refine List.forall_mem_cons.mpr ⟨⟨kn_Tg_code kc_X4_neededFor, by decide +kernel, ok_X4_neededFor⟩, ?_⟩
  refine List.forall_mem_cons.mpr ⟨⟨kn_Tg_code kc_X4_firmestUpTo, by decide +kernel, ok_X4_firmestUpTo⟩, ?_⟩
  refine List.forall_mem_cons.mpr ⟨⟨kn_Tg_code kc_X4_undoBy, by decide +kernel, ok_X4_undoBy⟩, ?_⟩
  refine List.forall_mem_cons.mpr ⟨⟨kn_Tg_code kc_X4_driftOneDay, by decide +kernel, ok_X4_driftOneDay⟩, ?_⟩
  refine List.forall_mem_cons.mpr ⟨⟨kn_Tg_code kc_X4_remember, by decide +kernel, ok_X4_remember⟩, ?_⟩
  refine List.forall_mem_cons.mpr ⟨⟨kn_Tg_code kc_X4_takeBack, by decide +kernel, ok_X4_takeBack⟩, ?_⟩
  refine List.forall_mem_cons.mpr ⟨⟨kn_Tg_code kc_X5_init, by decide +kernel, ok_X5_init⟩, ?_⟩
  refine List.forall_mem_cons.mpr ⟨⟨kn_Tg_code kc_X5_lay, by decide +kernel, ok_X5_lay⟩, ?_⟩
  refine List.forall_mem_cons.mpr ⟨⟨kn_Tg_code kc_X5_takeAway, by decide +kernel, ok_X5_takeAway⟩, ?_⟩
  refine List.forall_mem_cons.mpr ⟨⟨kn_Tg_code kc_X5_faultOf, by decide +kernel, ok_X5_faultOf⟩, ?_⟩
  refine List.forall_mem_cons.mpr ⟨⟨kn_Tg_code kc_X5_isInside, by decide +kernel, ok_X5_isInside⟩, ?_⟩
  refine List.forall_mem_cons.mpr ⟨⟨kn_Tg_code kc_X5_get, by decide +kernel, ok_X5_get⟩, ?_⟩
  refine List.forall_mem_cons.mpr ⟨⟨kn_Tg_code kc_X5_put, by decide +kernel, ok_X5_put⟩, ?_⟩
  refine List.forall_mem_cons.mpr ⟨⟨kn_Tg_code kc_X5_lowestBits, by decide +kernel, ok_X5_lowestBits⟩, ?_⟩
  refine List.forall_mem_cons.mpr ⟨⟨kn_Tg_code kc_X5_carry, by decide +kernel, ok_X5_carry⟩, ?_⟩
  refine List.forall_mem_cons.mpr ⟨⟨kn_Tg_code kc_X6_init, by decide +kernel, ok_X6_init⟩, ?_⟩
  refine List.forall_mem_cons.mpr ⟨⟨kn_Tg_code kc_X6_clause, by decide +kernel, ok_X6_clause⟩, ?_⟩
  refine List.forall_mem_cons.mpr ⟨⟨kn_Tg_code kc_X6_of, by decide +kernel, ok_X6_of⟩, ?_⟩
  refine List.forall_mem_cons.mpr ⟨⟨kn_Tg_code kc_X6_party, by decide +kernel, ok_X6_party⟩, ?_⟩
  refine List.forall_mem_cons.mpr ⟨⟨kn_Tg_code kc_X6_owe, by decide +kernel, ok_X6_owe⟩, ?_⟩
  refine List.forall_mem_cons.mpr ⟨⟨kn_Tg_code kc_X6_type, by decide +kernel, ok_X6_type⟩, ?_⟩
  refine List.forall_mem_cons.mpr ⟨⟨kn_Tg_code kc_X6_agreement, by decide +kernel, ok_X6_agreement⟩, ?_⟩
  refine List.forall_mem_cons.mpr ⟨⟨kn_Tg_code kc_X6_count, by decide +kernel, ok_X6_count⟩, ?_⟩
  refine List.forall_mem_cons.mpr ⟨⟨kn_Tg_code kc_X6_pull, by decide +kernel, ok_X6_pull⟩, ?_⟩
  refine List.forall_mem_cons.mpr ⟨⟨kn_Tg_code kc_X6_cut, by decide +kernel, ok_X6_cut⟩, ?_⟩
  refine List.forall_mem_cons.mpr ⟨⟨kn_Tg_code kc_X6_tie, by decide +kernel, ok_X6_tie⟩, ?_⟩
  refine List.forall_mem_cons.mpr ⟨⟨kn_Tg_code kc_X6_wet, by decide +kernel, ok_X6_wet⟩, ?_⟩
  refine List.forall_mem_cons.mpr ⟨⟨kn_Tg_code kc_X6_days, by decide +kernel, ok_X6_days⟩, ?_⟩
  refine List.forall_mem_cons.mpr ⟨⟨kn_Tg_code kc_X6_drift, by decide +kernel, ok_X6_drift⟩, ?_⟩
  refine List.forall_mem_cons.mpr ⟨⟨kn_Tg_code kc_X6_undo, by decide +kernel, ok_X6_undo⟩, ?_⟩
  refine List.forall_mem_cons.mpr ⟨⟨kn_Tg_code kc_X6_seed, by decide +kernel, ok_X6_seed⟩, ?_⟩
  refine List.forall_mem_cons.mpr ⟨⟨kn_Tg_code kc_X6_falls, by decide +kernel, ok_X6_falls⟩, ?_⟩
  refine List.forall_mem_cons.mpr ⟨⟨kn_Tg_code kc_X6_pulls, by decide +kernel, ok_X6_pulls⟩, ?_⟩
  refine List.forall_mem_cons.mpr ⟨⟨kn_Tg_code kc_X6_force, by decide +kernel, ok_X6_force⟩, ?_⟩
  refine List.forall_mem_cons.mpr ⟨⟨kn_Tg_code kc_X6_needs, by decide +kernel, ok_X6_needs⟩, ?_⟩
  refine List.forall_mem_cons.mpr ⟨⟨kn_Tg_code kc_X6_deep, by decide +kernel, ok_X6_deep⟩, ?_⟩
  refine List.forall_mem_cons.mpr ⟨⟨kn_Tg_code kc_X6_frees, by decide +kernel, ok_X6_frees⟩, ?_⟩
  refine List.forall_mem_cons.mpr ⟨⟨kn_Tg_code kc_X6_orders, by decide +kernel, ok_X6_orders⟩, ?_⟩
  refine List.forall_mem_cons.mpr ⟨⟨kn_Tg_code kc_X6_ahead, by decide +kernel, ok_X6_ahead⟩, ?_⟩
  refine List.forall_mem_cons.mpr ⟨⟨kn_Tg_code kc_X6_game, by decide +kernel, ok_X6_game⟩, ?_⟩
  refine List.forall_mem_cons.mpr ⟨⟨kn_Tg_code kc_X6_cuts, by decide +kernel, ok_X6_cuts⟩, ?_⟩
  refine List.forall_mem_cons.mpr ⟨⟨kn_Tg_code kc_X6_weather, by decide +kernel, ok_X6_weather⟩, ?_⟩
  refine List.forall_mem_cons.mpr ⟨⟨kn_Tg_code kc_X6_rotten, by decide +kernel, ok_X6_rotten⟩, ?_⟩
  refine List.forall_mem_cons.mpr ⟨⟨kn_Tg_code kc_X6_image, by decide +kernel, ok_X6_image⟩, ?_⟩
  refine List.forall_mem_cons.mpr ⟨⟨kn_Tg_code kc_X6_restore, by decide +kernel, ok_X6_restore⟩, ?_⟩
  refine List.forall_mem_cons.mpr ⟨⟨kn_Tg_code kc_X6_felt, by decide +kernel, ok_X6_felt⟩, ?_⟩
  refine List.forall_mem_cons.mpr ⟨⟨kn_Tg_code kc_X6_film, by decide +kernel, ok_X6_film⟩, ?_⟩
  refine List.forall_mem_cons.mpr ⟨⟨kn_Tg_code kc_X6_sheet, by decide +kernel, ok_X6_sheet⟩, ?_⟩
  refine List.forall_mem_cons.mpr ⟨⟨kn_Tg_code kc_X6_drop, by decide +kernel, ok_X6_drop⟩, ?_⟩
  refine List.forall_mem_cons.mpr ⟨⟨kn_Tg_code kc_X6_item, by decide +kernel, ok_X6_item⟩, ?_⟩
  refine List.forall_mem_cons.mpr ⟨⟨kn_Tg_code kc_X6_copy, by decide +kernel, ok_X6_copy⟩, ?_⟩
  refine List.forall_mem_cons.mpr ⟨⟨kn_Tg_code kc_X6_isWithin, by decide +kernel, ok_X6_isWithin⟩, ?_⟩
  refine List.forall_mem_cons.mpr ⟨⟨kn_Tg_code kc_X6_isForce, by decide +kernel, ok_X6_isForce⟩, ?_⟩
  refine List.forall_mem_cons.mpr ⟨⟨kn_Tg_code kc_X6_isParty, by decide +kernel, ok_X6_isParty⟩, ?_⟩
  refine List.forall_mem_cons.mpr ⟨⟨kn_Tg_code kc_X6_isSheet, by decide +kernel, ok_X6_isSheet⟩, ?_⟩
  refine List.forall_mem_cons.mpr ⟨⟨kn_Tg_code kc_X6_isLane, by decide +kernel, ok_X6_isLane⟩, ?_⟩
  refine List.forall_mem_cons.mpr ⟨⟨kn_Tg_code kc_X6_isClause, by decide +kernel, ok_X6_isClause⟩, ?_⟩
  refine List.forall_mem_cons.mpr ⟨⟨kn_Tg_code kc_X6_has, by decide +kernel, ok_X6_has⟩, ?_⟩
  refine List.forall_mem_cons.mpr ⟨⟨kn_Tg_code kc_X6_nthOf, by decide +kernel, ok_X6_nthOf⟩, ?_⟩
  refine List.forall_mem_cons.mpr ⟨⟨kn_Tg_code kc_X6_powerOf, by decide +kernel, ok_X6_powerOf⟩, ?_⟩
  refine List.forall_mem_cons.mpr ⟨⟨kn_Tg_code kc_X6_lowestPartOf, by decide +kernel, ok_X6_lowestPartOf⟩, ?_⟩
  refine List.forall_mem_cons.mpr ⟨⟨kn_Tg_code kc_X6_areForces, by decide +kernel, ok_X6_areForces⟩, ?_⟩
  refine List.forall_mem_cons.mpr ⟨⟨kn_Tg_code kc_X6_kindsFelt, by decide +kernel, ok_X6_kindsFelt⟩, ?_⟩
  refine List.forall_mem_cons.mpr ⟨⟨kn_Tg_code kc_X6_holdsFelt, by decide +kernel, ok_X6_holdsFelt⟩, ?_⟩
  refine List.forall_mem_cons.mpr ⟨⟨kn_Tg_code kc_X6_isAsTold, by decide +kernel, ok_X6_isAsTold⟩, ?_⟩
  refine List.forall_mem_cons.mpr ⟨⟨kn_Tg_code kc_X7_init, by decide +kernel, ok_X7_init⟩, ?_⟩
  refine List.forall_mem_cons.mpr ⟨⟨kn_Tg_code kc_X7_in, by decide +kernel, ok_X7_in⟩, ?_⟩
  refine List.forall_mem_cons.mpr ⟨⟨kn_Tg_code kc_X7_has, by decide +kernel, ok_X7_has⟩, ?_⟩
  refine List.forall_mem_cons.mpr ⟨⟨kn_Tg_code kc_X7_bits, by decide +kernel, ok_X7_bits⟩, ?_⟩
  refine List.forall_mem_cons.mpr ⟨⟨kn_Tg_code kc_X7_bring, by decide +kernel, ok_X7_bring⟩, ?_⟩
  refine List.forall_mem_cons.mpr ⟨⟨kn_Tg_code kc_X7_isClause, by decide +kernel, ok_X7_isClause⟩, ?_⟩
  refine List.forall_mem_cons.mpr ⟨⟨kn_Tg_code kc_X7_add, by decide +kernel, ok_X7_add⟩, ?_⟩
  refine List.forall_mem_cons.mpr ⟨⟨kn_Tg_code kc_X7_clause, by decide +kernel, ok_X7_clause⟩, ?_⟩
  refine List.forall_mem_cons.mpr ⟨⟨kn_Tg_code kc_X7_firmBy, by decide +kernel, ok_X7_firmBy⟩, ?_⟩
  refine List.forall_mem_cons.mpr ⟨⟨kn_Tg_code kc_X7_firm, by decide +kernel, ok_X7_firm⟩, ?_⟩
  refine List.forall_mem_cons.mpr ⟨⟨kn_Tg_code kc_X7_isFree, by decide +kernel, ok_X7_isFree⟩, ?_⟩
  refine List.forall_mem_cons.mpr ⟨⟨kn_Tg_code kc_X7_of, by decide +kernel, ok_X7_of⟩, ?_⟩
  refine List.forall_mem_cons.mpr ⟨⟨kn_Tg_code kc_X7_owedBy, by decide +kernel, ok_X7_owedBy⟩, ?_⟩
  refine List.forall_mem_cons.mpr ⟨⟨kn_Tg_code kc_X7_party, by decide +kernel, ok_X7_party⟩, ?_⟩
  refine List.forall_mem_cons.mpr ⟨⟨kn_Tg_code kc_X7_owe, by decide +kernel, ok_X7_owe⟩, ?_⟩
  refine List.forall_mem_cons.mpr ⟨⟨kn_Tg_code kc_X7_type, by decide +kernel, ok_X7_type⟩, ?_⟩
  refine List.forall_mem_cons.mpr ⟨⟨kn_Tg_code kc_X7_peek, by decide +kernel, ok_X7_peek⟩, ?_⟩
  refine List.forall_mem_cons.mpr ⟨⟨kn_Tg_code kc_X7_isSign, by decide +kernel, ok_X7_isSign⟩, ?_⟩
  refine List.forall_mem_cons.mpr ⟨⟨kn_Tg_code kc_X7_isDigit, by decide +kernel, ok_X7_isDigit⟩, ?_⟩
  refine List.forall_mem_cons.mpr ⟨⟨kn_Tg_code kc_X7_isNumber, by decide +kernel, ok_X7_isNumber⟩, ?_⟩
  refine List.forall_mem_cons.mpr ⟨⟨kn_Tg_code kc_X7_kindBy, by decide +kernel, ok_X7_kindBy⟩, ?_⟩
  refine List.forall_mem_cons.mpr ⟨⟨kn_Tg_code kc_X7_isClauseItem, by decide +kernel, ok_X7_isClauseItem⟩, ?_⟩
  refine List.forall_mem_cons.mpr ⟨⟨kn_Tg_code kc_X7_isAgreement, by decide +kernel, ok_X7_isAgreement⟩, ?_⟩
  refine List.forall_mem_cons.mpr ⟨⟨kn_Tg_code kc_X7_agreement, by decide +kernel, ok_X7_agreement⟩, ?_⟩
  refine List.forall_mem_cons.mpr ⟨⟨kn_Tg_code kc_X7_freeIn, by decide +kernel, ok_X7_freeIn⟩, ?_⟩
  refine List.forall_mem_cons.mpr ⟨⟨kn_Tg_code kc_X7_boundOnes, by decide +kernel, ok_X7_boundOnes⟩, ?_⟩
  refine List.forall_mem_cons.mpr ⟨⟨kn_Tg_code kc_X7_count, by decide +kernel, ok_X7_count⟩, ?_⟩
  refine List.forall_mem_cons.mpr ⟨⟨kn_Tg_code kc_X7_note, by decide +kernel, ok_X7_note⟩, ?_⟩
  refine List.forall_mem_cons.mpr ⟨⟨kn_Tg_code kc_X7_fallsIn, by decide +kernel, ok_X7_fallsIn⟩, ?_⟩
  refine List.forall_mem_cons.mpr ⟨⟨kn_Tg_code kc_X7_pullIn, by decide +kernel, ok_X7_pullIn⟩, ?_⟩
  refine List.forall_mem_cons.mpr ⟨⟨kn_Tg_code kc_X7_pull, by decide +kernel, ok_X7_pull⟩, ?_⟩
  refine List.forall_mem_cons.mpr ⟨⟨kn_Tg_code kc_X7_cut, by decide +kernel, ok_X7_cut⟩, ?_⟩
  refine List.forall_mem_cons.mpr ⟨⟨kn_Tg_code kc_X7_tie, by decide +kernel, ok_X7_tie⟩, ?_⟩
  refine List.forall_mem_cons.mpr ⟨⟨kn_Tg_code kc_X7_wet, by decide +kernel, ok_X7_wet⟩, ?_⟩
  refine List.forall_mem_cons.mpr ⟨⟨kn_Tg_code kc_X7_days, by decide +kernel, ok_X7_days⟩, ?_⟩
  refine List.forall_mem_cons.mpr ⟨⟨kn_Tg_code kc_X7_drift, by decide +kernel, ok_X7_drift⟩, ?_⟩
  refine List.forall_mem_cons.mpr ⟨⟨kn_Tg_code kc_X7_undo, by decide +kernel, ok_X7_undo⟩, ?_⟩
  refine List.forall_mem_cons.mpr ⟨⟨kn_Tg_code kc_X7_seed, by decide +kernel, ok_X7_seed⟩, ?_⟩
  refine List.forall_mem_cons.mpr ⟨⟨kn_Tg_code kc_X7_begin, by decide +kernel, ok_X7_begin⟩, ?_⟩
  refine List.forall_mem_cons.mpr ⟨⟨kn_Tg_code kc_X7_falls, by decide +kernel, ok_X7_falls⟩, ?_⟩
  refine List.forall_mem_cons.mpr ⟨⟨kn_Tg_code kc_X7_pulls, by decide +kernel, ok_X7_pulls⟩, ?_⟩
  refine List.forall_mem_cons.mpr ⟨⟨kn_Tg_code kc_X7_force, by decide +kernel, ok_X7_force⟩, ?_⟩
  refine List.forall_mem_cons.mpr ⟨⟨kn_Tg_code kc_X7_needsOf, by decide +kernel, ok_X7_needsOf⟩, ?_⟩
  refine List.forall_mem_cons.mpr ⟨⟨kn_Tg_code kc_X7_needs, by decide +kernel, ok_X7_needs⟩, ?_⟩
  refine List.forall_mem_cons.mpr ⟨⟨kn_Tg_code kc_X7_deep, by decide +kernel, ok_X7_deep⟩, ?_⟩
  refine List.forall_mem_cons.mpr ⟨⟨kn_Tg_code kc_X7_frees, by decide +kernel, ok_X7_frees⟩, ?_⟩
  refine List.forall_mem_cons.mpr ⟨⟨kn_Tg_code kc_X7_layWays, by decide +kernel, ok_X7_layWays⟩, ?_⟩
  refine List.forall_mem_cons.mpr ⟨⟨kn_Tg_code kc_X7_orders, by decide +kernel, ok_X7_orders⟩, ?_⟩
  refine List.forall_mem_cons.mpr ⟨⟨kn_Tg_code kc_X7_partOf, by decide +kernel, ok_X7_partOf⟩, ?_⟩
  refine List.forall_mem_cons.mpr ⟨⟨kn_Tg_code kc_X7_ahead, by decide +kernel, ok_X7_ahead⟩, ?_⟩
  refine List.forall_mem_cons.mpr ⟨⟨kn_Tg_code kc_X7_game, by decide +kernel, ok_X7_game⟩, ?_⟩
  refine List.forall_mem_cons.mpr ⟨⟨kn_Tg_code kc_X7_cuts, by decide +kernel, ok_X7_cuts⟩, ?_⟩
  refine List.forall_mem_cons.mpr ⟨⟨kn_Tg_code kc_X7_weather, by decide +kernel, ok_X7_weather⟩, ?_⟩
  refine List.forall_mem_cons.mpr ⟨⟨kn_Tg_code kc_X7_rotten, by decide +kernel, ok_X7_rotten⟩, ?_⟩
  refine List.forall_mem_cons.mpr ⟨⟨kn_Tg_code kc_X7_image, by decide +kernel, ok_X7_image⟩, ?_⟩
  refine List.forall_mem_cons.mpr ⟨⟨kn_Tg_code kc_X7_restore, by decide +kernel, ok_X7_restore⟩, ?_⟩
  refine List.forall_mem_cons.mpr ⟨⟨kn_Tg_code kc_X7_isSheet, by decide +kernel, ok_X7_isSheet⟩, ?_⟩
  refine List.forall_mem_cons.mpr ⟨⟨kn_Tg_code kc_X7_isPart, by decide +kernel, ok_X7_isPart⟩, ?_⟩
  refine List.forall_mem_cons.mpr ⟨⟨kn_Tg_code kc_X7_wrong, by decide +kernel, ok_X7_wrong⟩, ?_⟩
  refine List.forall_mem_cons.mpr ⟨⟨kn_Tg_code kc_X7_felt, by decide +kernel, ok_X7_felt⟩, ?_⟩
  refine List.forall_mem_cons.mpr ⟨⟨kn_Tg_code kc_X7_film, by decide +kernel, ok_X7_film⟩, ?_⟩
  refine List.forall_mem_cons.mpr ⟨⟨kn_Tg_code kc_X7_sheet, by decide +kernel, ok_X7_sheet⟩, ?_⟩
  refine List.forall_mem_cons.mpr ⟨⟨kn_Tg_code kc_X7_drop, by decide +kernel, ok_X7_drop⟩, ?_⟩
  refine List.forall_mem_cons.mpr ⟨⟨kn_Tg_code kc_X7_item, by decide +kernel, ok_X7_item⟩, ?_⟩
  refine List.forall_mem_cons.mpr ⟨⟨kn_Tg_code kc_X7_copy, by decide +kernel, ok_X7_copy⟩, ?_⟩
  refine List.forall_mem_cons.mpr ⟨⟨kn_Tg_code kc_J6_bitCount_0f7a4, by decide +kernel, ok_J6_bitCount_0f7a4⟩, ?_⟩
  exact fun _ h => absurd h List.not_mem_nil
theorem kn_st : kn_St kn_cl lw_tbl kn_Tg kn_Ns kn_T := by
  refine ⟨fun w h1 h2 => kn_Tg_of h1 h2, fun j M1 hj => kn_T_ok M1 (by rw [kn_at_eq] at hj; exact List.mem_of_getElem? hj), ⟨kn_Tg_code (i := 50) (by decide +kernel), kn_Tg_code (i := 437) (by decide +kernel)⟩, fun w hw => kn_Tg_good hw, kn_cl_ok, kn_Ns_ok⟩
theorem kn_arr {ty : FieldType} {s : State} {args : Array Value} (h : (Cond.arrayClass ty).before args s = true) (hra : ∀ x, va_RA s x ty = (s.vm.findClass ("[" ++ ty.toString) = some x)) : ∃ cA : ClassId, ArrOfT s cA ty ∧ va_RA s cA ty := by
  obtain ⟨cA, kA, comp, h1, h2, h3⟩ := Cond.arrayClass_spec h
  exact ⟨cA, fun n z => ⟨fun k h => (by cases h), kA, h2, comp, h3⟩, by rw [hra]; exact h1⟩
set_option maxHeartbeats 4000000 in
/-- the law's walk out of a run of the small machine -/
theorem kn_begin {p : Program} {e : Env} {s : State} {m : MethodId} {below : List Frame} {meth : Method} {c : Code} (l : Launch) {b L : Nat} {xs : Nat → Int32} (C0 : lw_At p s m meth c b L xs) {n : Nat} {h1 : kn_H} {k z : Nat}
    (hrun : kn_run kn_T n km_law (0, [(0, .ref 0)], []) [.inl (.int, L, .inl xs)] = some (some (.int 1), h1, k, z)) (hkk : k ≤ 45) (hzz : z ≤ 1765) :
    W p l e room_1 s m #[Value.ref b] below meth c s.heap [] 0 0 (lw_Z below #[Value.ref b] s) (entryFrame m ([Value.ref b] : List Value).toArray 4) := by
  obtain ⟨hx, hb, hr, hml, hown, hts, hX, hbl, hlocks, hgv⟩ := C0
  obtain ⟨c0, s0, g0⟩ := u_known (C := kR0) (T := kF0) (N := 5) (n := 5) hts (fun w hw => (kn0_in w hw).1) (hts _ (List.mem_of_getElem? (i := 58) (by decide +kernel)))
  obtain ⟨c1, s1, g1⟩ := u_known (C := kR1) (T := kF1) (N := 3) (n := 3) hts (fun w hw => (kn1_in w hw).1) (hts _ (List.mem_of_getElem? (i := 143) (by decide +kernel)))
  obtain ⟨c2, s2, g2⟩ := u_known (C := kR2) (T := kF2) (N := 2) (n := 2) hts (fun w hw => (kn2_in w hw).1) (hts _ (List.mem_of_getElem? (i := 92) (by decide +kernel)))
  obtain ⟨c3, s3, g3⟩ := u_known (C := kR3) (T := kF3) (N := 4) (n := 4) hts (fun w hw => (kn3_in w hw).1) (hts _ (List.mem_of_getElem? (i := 159) (by decide +kernel)))
  obtain ⟨c4, s4, g4⟩ := u_known (C := kR4) (T := kF4) (N := 8) (n := 8) hts (fun w hw => (kn4_in w hw).1) (hts _ (List.mem_of_getElem? (i := 52) (by decide +kernel)))
  obtain ⟨c5, s5, g5⟩ := u_known (C := kR5) (T := kF5) (N := 3) (n := 3) hts (fun w hw => (kn5_in w hw).1) (hts _ (List.mem_of_getElem? (i := 181) (by decide +kernel)))
  obtain ⟨c6, s6, g6⟩ := u_known (C := kR6) (T := kF6) (N := 6) (n := 6) hts (fun w hw => (kn6_in w hw).1) (hts _ (List.mem_of_getElem? (i := 44) (by decide +kernel)))
  obtain ⟨c7, s7, g7⟩ := u_known (C := kR7) (T := kF7) (N := 14) (n := 14) hts (fun w hw => (kn7_in w hw).1) (hts _ (List.mem_of_getElem? (i := 631) (by decide +kernel)))
  obtain ⟨dC, dI, hKc⟩ : ∃ (dC : Nat → ClassId) (dI : Nat → Nat → Nat), ∀ (k : Nat) (q : vw_C), kn_cl[k]? = some q → u_Kn s q.1 q.2.1 q.2.2 (dC k) (dI k) := by
    refine ⟨fun k => if k = 0 then c0 else if k = 1 then c1 else if k = 2 then c2 else if k = 3 then c3 else if k = 4 then c4 else if k = 5 then c5 else if k = 6 then c6 else c7, fun k => if k = 0 then s0 else if k = 1 then s1 else if k = 2 then s2 else if k = 3 then s3 else if k = 4 then s4 else if k = 5 then s5 else if k = 6 then s6 else s7, ?_⟩
    intro k q hq
    match k, hq with
    | 0, hq => cases hq; exact g0
    | 1, hq => cases hq; exact g1
    | 2, hq => cases hq; exact g2
    | 3, hq => cases hq; exact g3
    | 4, hq => cases hq; exact g4
    | 5, hq => cases hq; exact g5
    | 6, hq => cases hq; exact g6
    | 7, hq => cases hq; exact g7
    | k + 8, hq => simp [kn_cl] at hq
  obtain ⟨cI, i1, i2⟩ := kn_arr (ty := .int) (hts _ (List.mem_of_getElem? (i := 90) (by decide +kernel))) (fun _ => rfl)
  obtain ⟨cJ, j1, j2⟩ := kn_arr (ty := .long) (hts _ (List.mem_of_getElem? (i := 196) (by decide +kernel))) (fun _ => rfl)
  obtain ⟨cZ, y1, y2⟩ := kn_arr (ty := .boolean) (hts _ (List.mem_of_getElem? (i := 679) (by decide +kernel))) (fun _ => rfl)
  obtain ⟨cA, a1, a2, a3⟩ : ∃ cA : FieldType → ClassId, cA .int = cI ∧ cA .long = cJ ∧ cA .boolean = cZ := ⟨fun t => match t with
    | .int => cI
    | .long => cJ
    | _ => cZ, rfl, rfl, rfl⟩
  have hK : va_K (dC, dI) kn_cl (kn_tys cA) s := by
    refine ⟨hKc, fun k q hq => ?_⟩
    match k, hq with
    | 0, hq => cases hq; rw [a1]; exact ⟨i1, i2⟩
    | 1, hq => cases hq; rw [a2]; exact ⟨j1, j2⟩
    | 2, hq => cases hq; rw [a3]; exact ⟨y1, y2⟩
    | k + 3, hq => simp [kn_tys] at hq
  have hns : ∀ w ∈ kn_Ns, va_Nw w s := by
    intro w hw
    obtain ⟨i, hi⟩ := List.getElem?_of_mem hw
    have h5 : (kn_Ns.map some)[i]? = some (some w) := by rw [List.getElem?_map, hi]; rfl
    rw [kn_Ns_in, List.getElem?_map] at h5
    cases h6 : kn_Np[i]? with
    | none => rw [h6] at h5; cases h5
    | some j =>
      rw [h6] at h5
      have h7 : lw_tbl[j]? = some w := Option.some.inj h5
      obtain ⟨a9, i9, x9, h9, rfl⟩ := kn_Ns_ok w hw
      exact va_Nw.of rfl (hts _ (List.mem_of_getElem? h7))
  have C1 : kn_Ctx kn_cl kn_Tg kn_Ns b s.heap.size L xs cA (dC, dI) km_law p room_1 s m #[Value.ref b] meth c :=
    ⟨hx, hb, hr, hml, hown, fun w hw => hts w (List.mem_filter.mp hw).1, hns, hlocks, fun h => absurd h (by decide), hK, hX, hbl, Nat.le_refl _, by decide, by decide⟩
  rw [lg_entry_eq]
  have hl := lv_entry ([Value.ref b]) (n := 4) (Nat.le_of_ble_eq_true rfl)
  have hsnd : kn_Snd kn_cl kn_Tg kn_Ns b s.heap.size L xs cA (dC, dI) l km_law (0, [(0, .ref 0)], []) [.inl (.int, L, .inl xs)] (some (.int 1), h1, k, z) := kn_sound kn_st l n km_law (0, [(0, .ref 0)], []) [.inl (.int, L, .inl xs)] (some (.int 1), h1, k, z) hrun ok_law
  refine hsnd (k0 := 0) (z0 := 0) C1 (by rw [Nat.zero_add]; exact hkk) (by rw [Nat.zero_add]; exact hzz) ?_ s.heap [] _ ⟨[], rfl, rfl, fun k q h => by simp [kn_w] at h, va_S.rf⟩ hl
  intro H locs ls pc hR hE
  obtain ⟨rr, -, -, -, hS⟩ := hR
  rcases hE with ⟨x, hv, hd, -⟩ | ⟨x, hv, -⟩ | ⟨hv, -⟩
  · refine va_forget (fun q hq => hS.2.2 q hq) ?_
    refine W.widen (k := 45) (n := 1765) (by rw [Nat.zero_add]; exact hkk) (by rw [Nat.zero_add]; exact hzz) ?_
    exact lw_ret hx hb hr hlocks hd
  · cases hv
  · cases hv
end
section
/-! fewer locals do -/
def kn_Fn (l : List (Nat × Value)) : Prop := ∀ (i : Nat) (v w : Value), (i, v) ∈ l → (i, w) ∈ l → v = w
def kn_Sb (l l2 : List (Nat × Value)) : Prop := (∀ q ∈ l, q ∈ l2) ∧ kn_Fn l2
theorem kn_ld_some : ∀ {l : List (Nat × Value)} {i : Nat} {v : Value}, (i, v) ∈ l → ∃ w, kn_ld l i = some w
  | [], _, _, h => by cases h
  | q :: r, i, v, h => by
    rw [kn_ld]
    cases hb : Nat.beq q.1 i with
    | true => exact ⟨_, rfl⟩
    | false =>
      rcases List.mem_cons.mp h with h1 | h1
      · rw [← h1] at hb
        rw [show Nat.beq (i, v).1 i = true from Nat.beq_refl i] at hb
        cases hb
      · exact kn_ld_some h1
theorem kn_ld_sub {l l2 : List (Nat × Value)} (h : kn_Sb l l2) {i : Nat} {v : Value} (hl : kn_ld l i = some v) : kn_ld l2 i = some v := by
  have hm := h.1 _ (kn_ld_mem hl)
  obtain ⟨w, hw⟩ := kn_ld_some hm
  rw [hw, h.2 i w v (kn_ld_mem hw) hm]
theorem kn_s1_sub {l l2 : List (Nat × Value)} (h : kn_Sb l l2) (i : Nat) (v : Value) : kn_Sb (kn_s1 l i v) (kn_s1 l2 i v) := by
  refine ⟨fun q hq => ?_, fun j a b ha hb => ?_⟩
  · rcases List.mem_cons.mp hq with rfl | hq
    · exact List.mem_cons_self
    · obtain ⟨h1, h2⟩ := List.mem_filter.mp hq
      exact List.mem_cons_of_mem _ (List.mem_filter.mpr ⟨h.1 _ h1, h2⟩)
  · rcases List.mem_cons.mp ha with ha | ha <;> rcases List.mem_cons.mp hb with hb | hb
    · cases ha; cases hb; rfl
    · cases ha
      have := (List.mem_filter.mp hb).2
      simp at this
    · cases hb
      have := (List.mem_filter.mp ha).2
      simp at this
    · exact h.2 j a b (List.mem_filter.mp ha).1 (List.mem_filter.mp hb).1
theorem kn_s2_sub {l l2 : List (Nat × Value)} (h : kn_Sb l l2) (i : Nat) (v : Value) : kn_Sb (kn_s2 l i v) (kn_s2 l2 i v) := by
  refine ⟨fun q hq => ?_, fun j a b ha hb => ?_⟩
  · rcases List.mem_cons.mp hq with rfl | hq
    · exact List.mem_cons_self
    · obtain ⟨h1, h2⟩ := List.mem_filter.mp hq
      exact List.mem_cons_of_mem _ (List.mem_filter.mpr ⟨h.1 _ h1, h2⟩)
  · rcases List.mem_cons.mp ha with ha | ha <;> rcases List.mem_cons.mp hb with hb | hb
    · cases ha; cases hb; rfl
    · cases ha
      have := (List.mem_filter.mp hb).2
      simp at this
    · cases hb
      have := (List.mem_filter.mp ha).2
      simp at this
    · exact h.2 j a b (List.mem_filter.mp ha).1 (List.mem_filter.mp hb).1
/-- a step's outcome with other locals -/
def kn_Rs (l2 : List (Nat × Value)) (q : kn_R) (q2 : Option kn_R) : Prop := match q with
  | .inl (f1, h1, k, z) => ∃ l3, q2 = some (.inl ((f1.1, l3, f1.2.2), h1, k, z)) ∧ kn_Sb f1.2.1 l3
  | .inr (.inl (j, as, f1)) => ∃ l3, q2 = some (.inr (.inl (j, as, (f1.1, l3, f1.2.2)))) ∧ kn_Sb f1.2.1 l3
  | .inr (.inr v) => q2 = some (.inr (.inr v))
set_option maxHeartbeats 4000000 in
theorem kn_step_sub {nL : Nat} {ret : Option FieldType} {i : kn_I} {pc : Nat} {l l2 : List (Nat × Value)} {st : List Value} {h : kn_H} {q : kn_R} (hb : kn_Sb l l2) (hs : kn_step nL ret i pc l st h = some q) : kn_Rs l2 q (kn_step nL ret i pc l2 st h) := by
  obtain ⟨ins, len, aux, pl⟩ := i
  have hld : ∀ {i : Nat} {v : Value}, kn_ld l i = some v → kn_ld l2 i = some v := fun h => kn_ld_sub hb h
  cases ins
  case iload_n n => simp only [kn_step, kn_ldi] at hs ⊢; split at hs <;> first | (cases hs; done) | (rename_i hx; rw [hld hx]; cases hs; exact ⟨l2, rfl, hb⟩)
  case iload n => simp only [kn_step, kn_ldi] at hs ⊢; split at hs <;> first | (cases hs; done) | (rename_i hx; rw [hld hx]; cases hs; exact ⟨l2, rfl, hb⟩)
  case lload_n n => simp only [kn_step, kn_ldl] at hs ⊢; split at hs <;> first | (cases hs; done) | (rename_i hx; rw [hld hx]; cases hs; exact ⟨l2, rfl, hb⟩)
  case lload n => simp only [kn_step, kn_ldl] at hs ⊢; split at hs <;> first | (cases hs; done) | (rename_i hx; rw [hld hx]; cases hs; exact ⟨l2, rfl, hb⟩)
  case aload_n n => simp only [kn_step, kn_lda] at hs ⊢; split at hs <;> first | (cases hs; done) | (rename_i hx; rw [hld hx]; cases hs; exact ⟨l2, rfl, hb⟩)
  case aload n => simp only [kn_step, kn_lda] at hs ⊢; split at hs <;> first | (cases hs; done) | (rename_i hx; rw [hld hx]; cases hs; exact ⟨l2, rfl, hb⟩)
  case istore_n n => simp only [kn_step, kn_sti, cond_eq_ite] at hs ⊢; split at hs <;> first | (cases hs; done) | (split at hs <;> first | (cases hs; done) | (rename_i hx; rw [if_pos hx]; cases hs; exact ⟨_, rfl, kn_s1_sub hb _ _⟩))
  case istore n => simp only [kn_step, kn_sti, cond_eq_ite] at hs ⊢; split at hs <;> first | (cases hs; done) | (split at hs <;> first | (cases hs; done) | (rename_i hx; rw [if_pos hx]; cases hs; exact ⟨_, rfl, kn_s1_sub hb _ _⟩))
  case lstore_n n => simp only [kn_step, kn_stl, cond_eq_ite] at hs ⊢; split at hs <;> first | (cases hs; done) | (split at hs <;> first | (cases hs; done) | (rename_i hx; rw [if_pos hx]; cases hs; exact ⟨_, rfl, kn_s2_sub hb _ _⟩))
  case lstore n => simp only [kn_step, kn_stl, cond_eq_ite] at hs ⊢; split at hs <;> first | (cases hs; done) | (split at hs <;> first | (cases hs; done) | (rename_i hx; rw [if_pos hx]; cases hs; exact ⟨_, rfl, kn_s2_sub hb _ _⟩))
  case astore_n n => simp only [kn_step, kn_sta, cond_eq_ite] at hs ⊢; split at hs <;> first | (cases hs; done) | (split at hs <;> first | (cases hs; done) | (rename_i hx; rw [if_pos hx]; cases hs; exact ⟨_, rfl, kn_s1_sub hb _ _⟩))
  case astore n => simp only [kn_step, kn_sta, cond_eq_ite] at hs ⊢; split at hs <;> first | (cases hs; done) | (split at hs <;> first | (cases hs; done) | (rename_i hx; rw [if_pos hx]; cases hs; exact ⟨_, rfl, kn_s1_sub hb _ _⟩))
  case iinc n m => simp only [kn_step, kn_inc, cond_eq_ite] at hs ⊢; split at hs <;> first | (cases hs; done) | (rename_i hy; rw [hld hy]; dsimp only; split at hs <;> first | (cases hs; done) | (rename_i hx; rw [if_pos hx]; cases hs; exact ⟨_, rfl, kn_s1_sub hb _ _⟩))
  case ifCond cc off =>
    simp only [kn_step, kn_if] at hs ⊢
    split at hs
    · cases cc <;> (simp only [kn_br] at hs ⊢; split at hs <;> (rename_i hc; first | rw [if_pos hc] | rw [if_neg hc]) <;> (cases hs; exact ⟨l2, rfl, hb⟩))
    · cases hs
  case if_icmp cc off =>
    simp only [kn_step, kn_cmp] at hs ⊢
    split at hs
    · cases cc <;> (simp only [kn_br] at hs ⊢; split at hs <;> (rename_i hc; first | rw [if_pos hc] | rw [if_neg hc]) <;> (cases hs; exact ⟨l2, rfl, hb⟩))
    · cases hs
  case tableswitch dflt low high offs =>
    replace hs : kn_tab low high aux l st h = some q := hs
    show kn_Rs l2 q (kn_tab low high aux l2 st h)
    unfold kn_tab at hs ⊢
    split at hs
    · split at hs
      · rename_i hc
        rw [if_pos hc]
        cases hs
        exact ⟨l2, rfl, hb⟩
      · rename_i hc
        rw [if_neg hc]
        split at hs
        · cases hs
          exact ⟨l2, rfl, hb⟩
        · cases hs
    · cases hs
  case invokestatic idx =>
    cases aux with
    | nil =>
      replace hs : kn_copy (pc + 3) l st h = some q := hs
      show kn_Rs l2 q (kn_copy (pc + 3) l2 st h)
      simp only [kn_copy, kn_to, cond_eq_ite] at hs ⊢
      (repeat' split at hs) <;> first | (cases hs; done) | (cases hs; simp_all [kn_Rs]; done) | (cases hs; simp_all [kn_Rs]; exact ⟨l2, rfl, hb⟩)
    | cons a r =>
      cases r with
      | nil =>
        replace hs : kn_mx (pc + 3) l st h = some q := hs
        show kn_Rs l2 q (kn_mx (pc + 3) l2 st h)
        simp only [kn_mx, kn_to, cond_eq_ite] at hs ⊢
        split at hs
        · split at hs
          · rename_i hx
            rw [if_pos hx]
            cases hs
            exact ⟨l2, rfl, hb⟩
          · cases hs
        · cases hs
      | cons a2 r =>
        replace hs : kn_cs (pc + 3) (a :: a2 :: r) l st = some q := hs
        show kn_Rs l2 q (kn_cs (pc + 3) (a :: a2 :: r) l2 st)
        simp only [kn_cs, cond_eq_ite] at hs ⊢
        (repeat' split at hs) <;> first | (cases hs; done) | (cases hs; simp_all [kn_Rs]; done) | (cases hs; simp_all [kn_Rs]; exact ⟨l2, rfl, hb⟩)
  all_goals first | (cases hs; done) | (simp only [kn_step, kn_to] at hs ⊢; cases hs; exact ⟨l2, rfl, hb⟩) | skip
  all_goals (simp only [kn_step, kn_ii, kn_id, kn_ll, kn_ldv, kn_li, kn_lc, kn_1i, kn_1l, kn_dup, kn_pop, kn_dx1, kn_dx2, kn_d2, kn_if, kn_cmp, kn_br, kn_nul, kn_tab, kn_get, kn_put, kn_ald, kn_lald, kn_ast, kn_bast, kn_last, kn_len, kn_new, kn_newa, kn_cv, kn_cs, kn_ci, kn_cst, kn_copy, kn_mx, kn_ri, kn_rl, kn_rv, kn_to, cond_eq_ite] at hs ⊢; (repeat' split at hs) <;> first | (cases hs; done) | (cases hs; simp_all [kn_Rs]; done) | (cases hs; simp_all [kn_Rs]; exact ⟨l2, rfl, hb⟩))
end
section
theorem kn_run_sub (T : List kn_M) : ∀ (n : Nat) (M : kn_M) (pc : Nat) (l l2 : List (Nat × Value)) (st : List Value) (h : kn_H) (r : Option Value × kn_H × Nat × Nat), kn_Sb l l2 → kn_run T n M (pc, l, st) h = some r → kn_run T n M (pc, l2, st) h = some r := by
  intro n
  induction n with
  | zero => intro M pc l l2 st h r hb hr; cases hr
  | succ n ih =>
    intro M pc l l2 st h r hb hr
    rw [kn_run] at hr ⊢
    dsimp only at hr ⊢
    cases hc : kn_code M pc with
    | none => rw [hc] at hr; cases hr
    | some i =>
      rw [hc] at hr
      dsimp only at hr ⊢
      cases hs : kn_step M.2.2.1 M.2.2.2.1 i pc l st h with
      | none => rw [hs] at hr; cases hr
      | some q =>
        rw [hs] at hr
        have h2 := kn_step_sub hb hs
        rcases q with ⟨⟨pc1, l1, st1⟩, h1, k, z⟩ | ⟨j, as, ⟨pc1, l1, st1⟩⟩ | v
        · obtain ⟨l3, e3, hb3⟩ := h2
          rw [e3]
          dsimp only at hr ⊢
          cases h4 : kn_run T n M (pc1, l1, st1) h1 with
          | none => rw [h4] at hr; cases hr
          | some r1 =>
            rw [h4] at hr
            rw [ih M pc1 l1 l3 st1 h1 r1 hb3 h4]
            exact hr
        · obtain ⟨l3, e3, hb3⟩ := h2
          rw [e3]
          dsimp only at hr ⊢
          cases hj : kn_at T j with
          | none => rw [hj] at hr; cases hr
          | some M1 =>
            rw [hj] at hr
            dsimp only at hr ⊢
            cases h5 : kn_run T n M1 (0, lv_args 0 as, []) h with
            | none => rw [h5] at hr; cases hr
            | some r1 =>
              rw [h5] at hr
              obtain ⟨v, h1, k, z⟩ := r1
              dsimp only at hr ⊢
              cases h4 : kn_run T n M (pc1, l1, v.toList ++ st1) h1 with
              | none => rw [h4] at hr; cases hr
              | some r2 =>
                rw [h4] at hr
                rw [ih M pc1 l1 l3 (v.toList ++ st1) h1 r2 hb3 h4]
                exact hr
        · rw [show kn_step M.2.2.1 M.2.2.2.1 i pc l2 st h = some (.inr (.inr v)) from h2]
          exact hr
def kn_nd : List Nat → Bool
  | [] => true
  | a :: r => !(r.any (fun x => Nat.beq a x)) && kn_nd r
theorem kn_nd_fn : ∀ {l : List (Nat × Value)}, kn_nd (l.map (fun q => q.1)) = true → kn_Fn l
  | [], _ => fun _ _ _ h => by cases h
  | q :: r, hn => by
    obtain ⟨h1, h2⟩ := Bool.and_eq_true_iff.mp hn
    have ih := kn_nd_fn (l := r) h2
    have hno : ∀ w, (q.1, w) ∉ r := by
      intro w hw
      have h3 : (List.map (fun q => q.1) r).any (fun x => Nat.beq q.1 x) = true := List.any_eq_true.mpr ⟨q.1, List.mem_map.mpr ⟨_, hw, rfl⟩, Nat.beq_refl q.1⟩
      rw [h3] at h1
      cases h1
    intro i v w hv hw
    rcases List.mem_cons.mp hv with hv | hv <;> rcases List.mem_cons.mp hw with hw | hw
    · rw [← hv] at hw; cases hw; rfl
    · exact absurd hw (by have := hno w; rw [← hv] at this; exact this)
    · exact absurd hv (by have := hno v; rw [← hw] at this; exact this)
    · exact ih i v w hv hw
section KPR
variable {T : List kn_M} {M : kn_M} {h : kn_H} {Q : Option Value → kn_H → Prop} {pc : Nat}
theorem kn_P_pick (ks : List Nat) {l l1 : List (Nat × Value)} {st : List Value} (hl : lv_pick l ks = l1) (hn : kn_nd (l.map (fun q => q.1)) = true) (k : kn_Post T M (pc, l1, st) h Q) : kn_Post T M (pc, l, st) h Q := by
  obtain ⟨n, v, h1, hr, hq⟩ := k
  refine ⟨n, v, h1, kn_run_sub T n M pc l1 l st h _ ⟨fun q hq => ?_, kn_nd_fn hn⟩ hr, hq⟩
  rw [← hl] at hq
  obtain ⟨k, -, hk⟩ := List.mem_filterMap.mp hq
  exact List.mem_of_getElem? hk
theorem kn_P_retz {f : kn_F} {i : kn_I} {x : Int32} (hc : kn_code M f.1 = some i) (hs : kn_step M.2.2.1 M.2.2.2.1 i f.1 f.2.1 f.2.2 h = (bif x == 0 || x == 1 then some (.inr (.inr (some (.int x)))) else none)) (hx : x = 0 ∨ x = 1) (hq : Q (some (.int x)) h) : kn_Post T M f h Q := by
  refine kn_P_ret hc (v := some (.int x)) ?_ hq
  rw [hs]
  rcases hx with rfl | rfl <;> rfl
theorem kn_P_tab {f : kn_F} {i : kn_I} {x kk : Int32} {lo hi : Int} {d t : Nat} {ts : List Nat} {l : List (Nat × Value)} {r : List Value} (hc : kn_code M f.1 = some i) (hs : kn_step M.2.2.1 M.2.2.2.1 i f.1 f.2.1 f.2.2 h = kn_tab lo hi (d :: ts) l (.int x :: r) h) (hx : x = kk) (hk : kn_tab lo hi (d :: ts) l (.int kk :: r) h = kn_to t l r h) (k : kn_Post T M (t, l, r) h Q) : kn_Post T M f h Q := by
  refine kn_P_go hc (f1 := (t, l, r)) (h1 := h) ?_ k
  rw [hs, hx, hk]
  rfl
theorem kn_P_tabN {f : kn_F} {i : kn_I} {x : Int32} {lo hi : Int} {d : Nat} {ts : List Nat} {l : List (Nat × Value)} {r : List Value} (hc : kn_code M f.1 = some i) (hs : kn_step M.2.2.1 M.2.2.2.1 i f.1 f.2.1 f.2.2 h = kn_tab lo hi (d :: ts) l (.int x :: r) h) (hx : x.toInt < lo ∨ hi < x.toInt) (k : kn_Post T M (d, l, r) h Q) : kn_Post T M f h Q := by
  refine kn_P_go hc (f1 := (d, l, r)) (h1 := h) ?_ k
  rw [hs]
  show (if x.toInt < lo ∨ hi < x.toInt then _ else _) = _
  rw [if_pos hx]
  rfl
end KPR
theorem kn_tab_out {x : Int32} (lo hi : Int) (n : Nat) (hn : lo + n = hi + 1) (hj : ∀ j : Nat, j < n → ¬ x = Int32.ofInt (lo + j)) : x.toInt < lo ∨ hi < x.toInt := by
  rcases Int.lt_or_le x.toInt lo with h1 | h1
  · exact Or.inl h1
  · rcases Int.lt_or_le hi x.toInt with h2 | h2
    · exact Or.inr h2
    · exfalso
      refine hj (x.toInt - lo).toNat (by omega) ?_
      have e : lo + ((x.toInt - lo).toNat : Int) = x.toInt := by omega
      rw [e, Int32.ofInt_toInt]
end
section
/-- one instruction -/
def kn_one (M : kn_M) (f : kn_F) (h : kn_H) : Option kn_R := match kn_code M f.1 with
  | none => none
  | some i => kn_step M.2.2.1 M.2.2.2.1 i f.1 f.2.1 f.2.2 h
theorem kn_one_code {M : kn_M} {f : kn_F} {h : kn_H} {q : kn_R} (hs : kn_one M f h = some q) : ∃ i, kn_code M f.1 = some i ∧ kn_step M.2.2.1 M.2.2.2.1 i f.1 f.2.1 f.2.2 h = some q := by
  unfold kn_one at hs
  split at hs
  · cases hs
  · rename_i i hi
    exact ⟨i, hi, hs⟩
section KPQ
variable {T : List kn_M} {M : kn_M} {h : kn_H} {Q : Option Value → kn_H → Prop} {f : kn_F}
theorem kn_Q_go {f1 : kn_F} {h1 : kn_H} (hs : kn_one M f h = some (.inl (f1, h1, 0, 0))) (k : kn_Post T M f1 h1 Q) : kn_Post T M f h Q := by
  obtain ⟨i, hc, hs⟩ := kn_one_code hs
  exact kn_P_go hc hs k
theorem kn_Q_if {c : Prop} {dc : Decidable c} {t n : Nat} {l1 : List (Nat × Value)} {s1 : List Value} (hs : kn_one M f h = @ite _ c dc (kn_to t l1 s1 h) (kn_to n l1 s1 h)) (kt : c → kn_Post T M (t, l1, s1) h Q) (kf : ¬ c → kn_Post T M (n, l1, s1) h Q) : kn_Post T M f h Q := by
  by_cases hcc : c
  · refine kn_Q_go (f1 := (t, l1, s1)) (h1 := h) ?_ (kt hcc)
    rw [hs, if_pos hcc]
    rfl
  · refine kn_Q_go (f1 := (n, l1, s1)) (h1 := h) ?_ (kf hcc)
    rw [hs, if_neg hcc]
    rfl
theorem kn_Q_ok {c : Prop} {dc : Decidable c} {t : Nat} {l1 : List (Nat × Value)} {s1 : List Value} {h1 : kn_H} (hs : kn_one M f h = @ite _ c dc none (kn_to t l1 s1 h1)) (hn : ¬ c) (k : kn_Post T M (t, l1, s1) h1 Q) : kn_Post T M f h Q := by
  refine kn_Q_go (f1 := (t, l1, s1)) (h1 := h1) ?_ k
  rw [hs, if_neg hn]
  rfl
theorem kn_Q_ret {v : Option Value} (hs : kn_one M f h = some (.inr (.inr v))) (hq : Q v h) : kn_Post T M f h Q := by
  obtain ⟨i, hc, hs⟩ := kn_one_code hs
  exact kn_P_ret hc hs hq
theorem kn_Q_retz {x : Int32} (hs : kn_one M f h = (bif x == 0 || x == 1 then some (.inr (.inr (some (.int x)))) else none)) (hx : x = 0 ∨ x = 1) (hq : Q (some (.int x)) h) : kn_Post T M f h Q := by
  refine kn_Q_ret (v := some (.int x)) ?_ hq
  rw [hs]
  rcases hx with rfl | rfl <;> rfl
theorem kn_Q_call {f0 f1 : kn_F} {j : Nat} {as : List Value} {M1 : kn_M} {Q1 : Option Value → kn_H → Prop} (hs : kn_one M f h = some (.inr (.inl (j, as, f1)))) (hj : kn_at T j = some M1) (hf : (0, lv_args 0 as, []) = f0) (hP : kn_Post T M1 f0 h Q1)
    (k : ∀ v h1, Q1 v h1 → kn_Post T M (f1.1, f1.2.1, v.toList ++ f1.2.2) h1 Q) : kn_Post T M f h Q := by
  obtain ⟨i, hc, hs⟩ := kn_one_code hs
  subst hf
  exact kn_P_call hc hs hj hP k
theorem kn_Q_tab {x kk : Int32} {lo hi : Int} {d t : Nat} {ts : List Nat} {l : List (Nat × Value)} {r : List Value} (hs : kn_one M f h = kn_tab lo hi (d :: ts) l (.int x :: r) h) (hx : x = kk) (hk : kn_tab lo hi (d :: ts) l (.int kk :: r) h = kn_to t l r h) (k : kn_Post T M (t, l, r) h Q) : kn_Post T M f h Q := by
  refine kn_Q_go (f1 := (t, l, r)) (h1 := h) ?_ k
  rw [hs, hx, hk]
  rfl
theorem kn_Q_tabN {x : Int32} {lo hi : Int} {d : Nat} {ts : List Nat} {l : List (Nat × Value)} {r : List Value} (hs : kn_one M f h = kn_tab lo hi (d :: ts) l (.int x :: r) h) (hx : x.toInt < lo ∨ hi < x.toInt) (k : kn_Post T M (d, l, r) h Q) : kn_Post T M f h Q := by
  refine kn_Q_go (f1 := (d, l, r)) (h1 := h) ?_ k
  rw [hs]
  show (if x.toInt < lo ∨ hi < x.toInt then _ else _) = _
  rw [if_pos hx]
  rfl
end KPQ
end
section
def kn_hp (L : Nat) (xs : Nat → Int32) (r_t_kinds : (Nat → Int32)) (r_t_holds : (Nat → Int32)) (r_t_barred : (Nat → Int32)) (r_t_parties : (Nat → Int32)) (r_t_size : Int32) (r_p_numbers : (Nat → Int32)) (r_p_size : Int32) (r_firms : (Nat → Int32)) (r_tied : Int32) (r_wars : Int32) (r_wet : Int32) (r_day : Int32) (r_drawn : Int32) (k_t_kinds : (Nat → Int32)) (k_t_holds : (Nat → Int32)) (k_t_barred : (Nat → Int32)) (k_t_parties : (Nat → Int32)) (k_t_size : Int32) (k_p_numbers : (Nat → Int32)) (k_p_size : Int32) (k_firms : (Nat → Int32)) (k_tied : Int32) (k_wars : Int32) (k_wet : Int32) (k_day : Int32) (k_drawn : Int32) (f_depths : (Nat → Int32)) (f_bars : (Nat → Int32)) (f_ways : (Nat → Int32)) (d_letters : (Nat → Int32)) (d_t_kinds : (Nat → Int32)) (d_t_holds : (Nat → Int32)) (d_t_barred : (Nat → Int32)) (d_t_parties : (Nat → Int32)) (d_t_size : Int32) (d_size : Int32) (d_at : Int32) (s_lanes : (Nat → Int32)) (s_sizes : (Nat → Int32)) (s_items : (Nat → Int64)) (isKept : Int32) (m_lane : (Nat → Int32)) (m_size : (Nat → Int32)) (m_item : (Nat → Int64)) (m_letters : Int32) (m_tape : (Nat → Int32)) (m_position : Int32) (m_number : Int32) (m_now : (Nat → Int32)) (m_tried : (Nat → Int32)) (m_read : (Nat → Int32)) (m_kept : (Nat → Int32)) (m_isKept : Int32) (m_ways : (Nat → Int32)) (m_wins : (Nat → Int32)) : kn_H := [
  .inl (.int, L, .inl xs),
  .inr (6, [.ref 2, .ref 11, .ref 20, .ref 24, .ref 31, .int isKept]),
  .inr (4, [.ref 3, .ref 8, .ref 10, .int r_tied, .int r_wars, .int r_wet, .int r_day, .int r_drawn]),
  .inr (0, [.ref 4, .ref 5, .ref 6, .ref 7, .int r_t_size]),
  .inl (.int, 8, .inl r_t_kinds),
  .inl (.int, 8, .inl r_t_holds),
  .inl (.int, 8, .inl r_t_barred),
  .inl (.int, 8, .inl r_t_parties),
  .inr (2, [.ref 9, .int r_p_size]),
  .inl (.int, 40, .inl r_p_numbers),
  .inl (.int, 8, .inl r_firms),
  .inr (4, [.ref 12, .ref 17, .ref 19, .int k_tied, .int k_wars, .int k_wet, .int k_day, .int k_drawn]),
  .inr (0, [.ref 13, .ref 14, .ref 15, .ref 16, .int k_t_size]),
  .inl (.int, 8, .inl k_t_kinds),
  .inl (.int, 8, .inl k_t_holds),
  .inl (.int, 8, .inl k_t_barred),
  .inl (.int, 8, .inl k_t_parties),
  .inr (2, [.ref 18, .int k_p_size]),
  .inl (.int, 40, .inl k_p_numbers),
  .inl (.int, 8, .inl k_firms),
  .inr (1, [.ref 21, .ref 22, .ref 23]),
  .inl (.int, 8, .inl f_depths),
  .inl (.int, 8, .inl f_bars),
  .inl (.int, 256, .inl f_ways),
  .inr (3, [.ref 25, .ref 26, .int d_size, .int d_at]),
  .inl (.int, 100, .inl d_letters),
  .inr (0, [.ref 27, .ref 28, .ref 29, .ref 30, .int d_t_size]),
  .inl (.int, 8, .inl d_t_kinds),
  .inl (.int, 8, .inl d_t_holds),
  .inl (.int, 8, .inl d_t_barred),
  .inl (.int, 8, .inl d_t_parties),
  .inr (5, [.ref 32, .ref 33, .ref 34]),
  .inl (.int, 4, .inl s_lanes),
  .inl (.int, 4, .inl s_sizes),
  .inl (.long, 96, .inr (.inl s_items)),
  .inr (7, [.ref 36, .ref 37, .ref 38, .int m_letters, .ref 39, .int m_position, .int m_number, .ref 40, .ref 41, .ref 42, .ref 43, .int m_isKept, .ref 44, .ref 45]),
  .inl (.int, 4, .inl m_lane),
  .inl (.int, 4, .inl m_size),
  .inl (.long, 96, .inr (.inl m_item)),
  .inl (.int, 100, .inl m_tape),
  .inl (.int, 79, .inl m_now),
  .inl (.int, 79, .inl m_tried),
  .inl (.int, 79, .inl m_read),
  .inl (.int, 79, .inl m_kept),
  .inl (.int, 256, .inl m_ways),
  .inl (.boolean, 256, .inl m_wins)]
def f_X6_isWithin (p0 : Int32) (p1 : Int32) (p2 : Int32) : Int32 :=
  (if p0 < p1 then
    (0 : Int32)
  else
    (if p2 < p0 then
      (0 : Int32)
    else
      (1 : Int32)))
def f_X6_isParty (p0 : Int32) : Int32 :=
  (f_X6_isWithin p0 (0 : Int32) (3 : Int32))
def f_X0_add (r_t_kinds : (Nat → Int32)) (r_t_holds : (Nat → Int32)) (r_t_barred : (Nat → Int32)) (r_t_parties : (Nat → Int32)) (r_t_size : Int32) (p1 : Int32) (p2 : Int32) (p3 : Int32) (p4 : Int32) : Option (Int32 × (Nat → Int32) × (Nat → Int32) × (Nat → Int32) × (Nat → Int32) × Int32) :=
  (if r_t_size < (0 : Int32) then
    some ((-3 : Int32), r_t_kinds, r_t_holds, r_t_barred, r_t_parties, r_t_size)
  else
    (if r_t_size < (8 : Int32) then
      (if r_t_size < 0 ∨ 8 ≤ (r_t_size).toNatClampNeg then none else
        (if r_t_size < 0 ∨ 8 ≤ (r_t_size).toNatClampNeg then none else
          (if r_t_size < 0 ∨ 8 ≤ (r_t_size).toNatClampNeg then none else
            (if r_t_size < 0 ∨ 8 ≤ (r_t_size).toNatClampNeg then none else
              some (r_t_size, (upd r_t_kinds (r_t_size).toNatClampNeg p1), (upd r_t_holds (r_t_size).toNatClampNeg p2), (upd r_t_barred (r_t_size).toNatClampNeg p3), (upd r_t_parties (r_t_size).toNatClampNeg p4), (r_t_size + (1 : Int32)))))))
    else
      some ((-3 : Int32), r_t_kinds, r_t_holds, r_t_barred, r_t_parties, r_t_size)))
def f_X4_addClause (r_t_kinds : (Nat → Int32)) (r_t_holds : (Nat → Int32)) (r_t_barred : (Nat → Int32)) (r_t_parties : (Nat → Int32)) (r_t_size : Int32) (r_p_size : Int32) (r_tied : Int32) (p1 : Int32) (p2 : Int32) (p3 : Int32) (p4 : Int32) : Option (Int32 × (Nat → Int32) × (Nat → Int32) × (Nat → Int32) × (Nat → Int32) × Int32 × Int32 × Int32) :=
  (match f_X0_add r_t_kinds r_t_holds r_t_barred r_t_parties r_t_size p1 p2 p3 p4 with
  | none => none
  | some q1 =>
    (if q1.1 < (0 : Int32) then
      some (q1.1, q1.2.1, q1.2.2.1, q1.2.2.2.1, q1.2.2.2.2.1, q1.2.2.2.2.2, r_p_size, r_tied)
    else
      some (q1.1, q1.2.1, q1.2.2.1, q1.2.2.2.1, q1.2.2.2.2.1, q1.2.2.2.2.2, (0 : Int32), (r_tied ||| ((1 : Int32) <<< (q1.1 &&& (31 : Int32)))))))
def f_X6_clause (r_t_kinds : (Nat → Int32)) (r_t_holds : (Nat → Int32)) (r_t_barred : (Nat → Int32)) (r_t_parties : (Nat → Int32)) (r_t_size : Int32) (r_p_size : Int32) (r_tied : Int32) (p1 : Int32) (p2 : Int32) (p3 : Int32) (p4 : Int32) : Option (Int32 × (Nat → Int32) × (Nat → Int32) × (Nat → Int32) × (Nat → Int32) × Int32 × Int32 × Int32) :=
  (if (f_X6_isWithin p1 (0 : Int32) (4 : Int32)) = (0 : Int32) then
    some ((-1 : Int32), r_t_kinds, r_t_holds, r_t_barred, r_t_parties, r_t_size, r_p_size, r_tied)
  else
    (if (f_X6_isWithin p2 (1 : Int32) (20 : Int32)) = (0 : Int32) then
      some ((-1 : Int32), r_t_kinds, r_t_holds, r_t_barred, r_t_parties, r_t_size, r_p_size, r_tied)
    else
      (if (f_X6_isWithin p3 (0 : Int32) (((1 : Int32) <<< (r_t_size &&& (31 : Int32))) - (1 : Int32))) = (0 : Int32) then
        some ((-1 : Int32), r_t_kinds, r_t_holds, r_t_barred, r_t_parties, r_t_size, r_p_size, r_tied)
      else
        (if (f_X6_isParty p4) = (0 : Int32) then
          some ((-1 : Int32), r_t_kinds, r_t_holds, r_t_barred, r_t_parties, r_t_size, r_p_size, r_tied)
        else
          (if r_t_size < (8 : Int32) then
            (match f_X4_addClause r_t_kinds r_t_holds r_t_barred r_t_parties r_t_size r_p_size r_tied p1 p2 p3 p4 with
            | none => none
            | some q1 =>
              some (q1.1, q1.2.1, q1.2.2.1, q1.2.2.2.1, q1.2.2.2.2.1, q1.2.2.2.2.2.1, q1.2.2.2.2.2.2.1, q1.2.2.2.2.2.2.2))
          else
            some ((-3 : Int32), r_t_kinds, r_t_holds, r_t_barred, r_t_parties, r_t_size, r_p_size, r_tied))))))
def f_X7_in (p0 : Int32) (p1 : Int32) (p2 : Int32) : Int32 :=
  (if p0 < p1 then
    (0 : Int32)
  else
    (if p2 < p0 then
      (0 : Int32)
    else
      (1 : Int32)))
def f_X7_add (m_now : (Nat → Int32)) (p1 : Int32) (p2 : Int32) (p3 : Int32) (p4 : Int32) : Option (Int32 × (Nat → Int32)) :=
  (if ((6 : Int32) + (m_now 5)) < 0 ∨ 79 ≤ (((6 : Int32) + (m_now 5))).toNatClampNeg then none else
    (if ((14 : Int32) + (m_now 5)) < 0 ∨ 79 ≤ (((14 : Int32) + (m_now 5))).toNatClampNeg then none else
      (if ((22 : Int32) + (m_now 5)) < 0 ∨ 79 ≤ (((22 : Int32) + (m_now 5))).toNatClampNeg then none else
        (if ((30 : Int32) + (m_now 5)) < 0 ∨ 79 ≤ (((30 : Int32) + (m_now 5))).toNatClampNeg then none else
          some ((m_now 5), (upd (upd (upd (upd (upd (upd m_now (((6 : Int32) + (m_now 5))).toNatClampNeg p1) (((14 : Int32) + (m_now 5))).toNatClampNeg p2) (((22 : Int32) + (m_now 5))).toNatClampNeg p3) (((30 : Int32) + (m_now 5))).toNatClampNeg p4) 2 (((upd (upd (upd (upd m_now (((6 : Int32) + (m_now 5))).toNatClampNeg p1) (((14 : Int32) + (m_now 5))).toNatClampNeg p2) (((22 : Int32) + (m_now 5))).toNatClampNeg p3) (((30 : Int32) + (m_now 5))).toNatClampNeg p4) 2) ||| ((1 : Int32) <<< ((m_now 5) &&& (31 : Int32))))) 5 (((upd (upd (upd (upd (upd m_now (((6 : Int32) + (m_now 5))).toNatClampNeg p1) (((14 : Int32) + (m_now 5))).toNatClampNeg p2) (((22 : Int32) + (m_now 5))).toNatClampNeg p3) (((30 : Int32) + (m_now 5))).toNatClampNeg p4) 2 (((upd (upd (upd (upd m_now (((6 : Int32) + (m_now 5))).toNatClampNeg p1) (((14 : Int32) + (m_now 5))).toNatClampNeg p2) (((22 : Int32) + (m_now 5))).toNatClampNeg p3) (((30 : Int32) + (m_now 5))).toNatClampNeg p4) 2) ||| ((1 : Int32) <<< ((m_now 5) &&& (31 : Int32))))) 5) + (1 : Int32))))))))
def f_X7_clause (m_now : (Nat → Int32)) (p1 : Int32) (p2 : Int32) (p3 : Int32) (p4 : Int32) : Option (Int32 × (Nat → Int32)) :=
  (if (f_X7_in p1 (0 : Int32) (4 : Int32)) = (0 : Int32) then
    some ((-1 : Int32), m_now)
  else
    (if (f_X7_in p2 (1 : Int32) (20 : Int32)) = (0 : Int32) then
      some ((-1 : Int32), m_now)
    else
      (if (f_X7_in p3 (0 : Int32) (((1 : Int32) <<< ((m_now 5) &&& (31 : Int32))) - (1 : Int32))) = (0 : Int32) then
        some ((-1 : Int32), m_now)
      else
        (if (f_X7_in p4 (0 : Int32) (3 : Int32)) = (0 : Int32) then
          some ((-1 : Int32), m_now)
        else
          (if (m_now 5) = (8 : Int32) then
            some ((-3 : Int32), m_now)
          else
            (match f_X7_add (upd m_now 38 (0 : Int32)) p1 p2 p3 p4 with
            | none => none
            | some q1 =>
              some (q1.1, q1.2)))))))
def f_X6_isClause (r_t_size : Int32) (p1 : Int32) : Int32 :=
  (if p1 < (0 : Int32) then
    (0 : Int32)
  else
    (if r_t_size ≤ p1 then
      (0 : Int32)
    else
      (if (8 : Int32) ≤ p1 then
        (0 : Int32)
      else
        (1 : Int32))))
def f_X6_has (p0 : Int32) (p1 : Int32) : Int32 :=
  (if ((p0 >>> (p1 &&& (31 : Int32))) &&& (1 : Int32)) = (0 : Int32) then
    (0 : Int32)
  else
    (1 : Int32))
def fl_X4_freeAmong_4 : Nat → (Nat → Int32) → Int32 → Int32 → Int32 → Option (Int32)
  | 0, _, _, _, _ => none
  | n + 1, r_t_barred, v1, v2, v3 =>
    (if (8 : Int32) ≤ v3 then
      some (v2)
    else
      (if (f_X6_has v1 v3) = (0 : Int32) then
        fl_X4_freeAmong_4 n r_t_barred v1 v2 (v3 + (1 : Int32))
      else
        (if v3 < 0 ∨ 8 ≤ (v3).toNatClampNeg then none else
          (if ((r_t_barred (v3).toNatClampNeg) &&& v1) = (0 : Int32) then
            fl_X4_freeAmong_4 n r_t_barred v1 (v2 ||| ((1 : Int32) <<< (v3 &&& (31 : Int32)))) (v3 + (1 : Int32))
          else
            fl_X4_freeAmong_4 n r_t_barred v1 v2 (v3 + (1 : Int32))))))
def f_X4_freeAmong (r_t_barred : (Nat → Int32)) (p1 : Int32) : Option (Int32) :=
  fl_X4_freeAmong_4 300 r_t_barred p1 (0 : Int32) (0 : Int32)
def f_X4_firmBy (r_wet : Int32) (p1 : Int32) (p2 : Int32) (p3 : Int32) : Int32 :=
  (if r_wet = (1 : Int32) then
    (if p1 = (0 : Int32) then
      ((2 : Int32) * p2)
    else
    (if p1 = (1 : Int32) then
      (((2 : Int32) * p2) + (10 : Int32))
    else
    (if p1 = (2 : Int32) then
      (((2 : Int32) * p2) / (2 : Int32))
    else
    (if p1 = (3 : Int32) then
      ((((2 : Int32) * p2) + (10 : Int32)) + (p3 / (10 : Int32)))
    else
    (if p1 = (4 : Int32) then
      (if (p3 - p3 / (7 : Int32) * (7 : Int32)) = (0 : Int32) then
        (0 : Int32)
      else
        (((2 : Int32) * p2) / (2 : Int32)))
    else
      ((2 : Int32) * p2))))))
  else
    (if p1 = (0 : Int32) then
      p2
    else
    (if p1 = (1 : Int32) then
      (p2 + (10 : Int32))
    else
    (if p1 = (2 : Int32) then
      (p2 / (2 : Int32))
    else
    (if p1 = (3 : Int32) then
      ((p2 + (10 : Int32)) + (p3 / (10 : Int32)))
    else
    (if p1 = (4 : Int32) then
      (if (p3 - p3 / (7 : Int32) * (7 : Int32)) = (0 : Int32) then
        (0 : Int32)
      else
        (p2 / (2 : Int32)))
    else
      p2))))))
def f_X4_firmOnDay (r_t_kinds : (Nat → Int32)) (r_t_holds : (Nat → Int32)) (r_wet : Int32) (p1 : Int32) (p2 : Int32) : Option (Int32) :=
  (if p1 < 0 ∨ 8 ≤ (p1).toNatClampNeg then none else
    (if p1 < 0 ∨ 8 ≤ (p1).toNatClampNeg then none else
      some ((f_X4_firmBy r_wet (r_t_kinds (p1).toNatClampNeg) (r_t_holds (p1).toNatClampNeg) p2))))
def f_X4_firmOf (r_t_kinds : (Nat → Int32)) (r_t_holds : (Nat → Int32)) (r_wet : Int32) (r_day : Int32) (p1 : Int32) : Option (Int32) :=
  (match f_X4_firmOnDay r_t_kinds r_t_holds r_wet p1 r_day with
  | none => none
  | some q1 =>
    some (q1))
def f_X6_of (r_t_kinds : (Nat → Int32)) (r_t_holds : (Nat → Int32)) (r_t_barred : (Nat → Int32)) (r_t_parties : (Nat → Int32)) (r_t_size : Int32) (r_tied : Int32) (r_wet : Int32) (r_day : Int32) (p1 : Int32) (p2 : Int32) : Option (Int32) :=
  (if (f_X6_isClause r_t_size p1) = (0 : Int32) then
    some ((-1 : Int32))
  else
    (if p2 = (0 : Int32) then
      (if p1 < 0 ∨ 8 ≤ (p1).toNatClampNeg then none else
        some ((r_t_kinds (p1).toNatClampNeg)))
    else
    (if p2 = (1 : Int32) then
      (if p1 < 0 ∨ 8 ≤ (p1).toNatClampNeg then none else
        some ((r_t_holds (p1).toNatClampNeg)))
    else
    (if p2 = (2 : Int32) then
      (if p1 < 0 ∨ 8 ≤ (p1).toNatClampNeg then none else
        some ((r_t_barred (p1).toNatClampNeg)))
    else
    (if p2 = (3 : Int32) then
      (if p1 < 0 ∨ 8 ≤ (p1).toNatClampNeg then none else
        some ((r_t_parties (p1).toNatClampNeg)))
    else
    (if p2 = (4 : Int32) then
      (if (f_X6_has r_tied p1) = (0 : Int32) then
        some ((0 : Int32))
      else
        some ((1 : Int32)))
    else
    (if p2 = (5 : Int32) then
      (match f_X4_freeAmong r_t_barred r_tied with
      | none => none
      | some q1 =>
        (if (f_X6_has q1 p1) = (0 : Int32) then
          some ((0 : Int32))
        else
          some ((1 : Int32))))
    else
    (if p2 = (6 : Int32) then
      (match f_X4_firmOf r_t_kinds r_t_holds r_wet r_day p1 with
      | none => none
      | some q2 =>
        some (q2))
    else
      some ((-1 : Int32))))))))))
def f_X7_isClause (m_now : (Nat → Int32)) (p1 : Int32) : Int32 :=
  (f_X7_in p1 (0 : Int32) ((m_now 5) - (1 : Int32)))
def f_X7_has (p0 : Int32) (p1 : Int32) : Int32 :=
  (if ((p0 >>> (p1 &&& (31 : Int32))) &&& (1 : Int32)) = (1 : Int32) then
    (1 : Int32)
  else
    (0 : Int32))
def f_X7_isFree (m_now : (Nat → Int32)) (p1 : Int32) (p2 : Int32) : Option (Int32) :=
  (if (f_X7_has p2 p1) = (0 : Int32) then
    some ((0 : Int32))
  else
    (if ((22 : Int32) + p1) < 0 ∨ 79 ≤ (((22 : Int32) + p1)).toNatClampNeg then none else
      (if ((m_now (((22 : Int32) + p1)).toNatClampNeg) &&& p2) = (0 : Int32) then
        some ((1 : Int32))
      else
        some ((0 : Int32)))))
def f_X7_firmBy (m_now : (Nat → Int32)) (p1 : Int32) (p2 : Int32) : Int32 :=
  (if (m_now 3) = (1 : Int32) then
    (if p1 = (0 : Int32) then
      ((2 : Int32) * p2)
    else
    (if p1 = (1 : Int32) then
      (((2 : Int32) * p2) + (10 : Int32))
    else
    (if p1 = (2 : Int32) then
      (((2 : Int32) * p2) / (2 : Int32))
    else
    (if p1 = (3 : Int32) then
      ((((2 : Int32) * p2) + (10 : Int32)) + ((m_now 0) / (10 : Int32)))
    else
      (if ((m_now 0) - (m_now 0) / (7 : Int32) * (7 : Int32)) = (0 : Int32) then
        (0 : Int32)
      else
        (((2 : Int32) * p2) / (2 : Int32)))))))
  else
    (if p1 = (0 : Int32) then
      p2
    else
    (if p1 = (1 : Int32) then
      (p2 + (10 : Int32))
    else
    (if p1 = (2 : Int32) then
      (p2 / (2 : Int32))
    else
    (if p1 = (3 : Int32) then
      ((p2 + (10 : Int32)) + ((m_now 0) / (10 : Int32)))
    else
      (if ((m_now 0) - (m_now 0) / (7 : Int32) * (7 : Int32)) = (0 : Int32) then
        (0 : Int32)
      else
        (p2 / (2 : Int32))))))))
def f_X7_firm (m_now : (Nat → Int32)) (p1 : Int32) : Option (Int32) :=
  (if ((6 : Int32) + p1) < 0 ∨ 79 ≤ (((6 : Int32) + p1)).toNatClampNeg then none else
    (if ((14 : Int32) + p1) < 0 ∨ 79 ≤ (((14 : Int32) + p1)).toNatClampNeg then none else
      some ((f_X7_firmBy m_now (m_now (((6 : Int32) + p1)).toNatClampNeg) (m_now (((14 : Int32) + p1)).toNatClampNeg)))))
def f_X7_of (m_now : (Nat → Int32)) (p1 : Int32) (p2 : Int32) : Option (Int32) :=
  (if (f_X7_isClause m_now p1) = (0 : Int32) then
    some ((-1 : Int32))
  else
    (if p2 = (0 : Int32) then
      (if ((6 : Int32) + p1) < 0 ∨ 79 ≤ (((6 : Int32) + p1)).toNatClampNeg then none else
        some ((m_now (((6 : Int32) + p1)).toNatClampNeg)))
    else
    (if p2 = (1 : Int32) then
      (if ((14 : Int32) + p1) < 0 ∨ 79 ≤ (((14 : Int32) + p1)).toNatClampNeg then none else
        some ((m_now (((14 : Int32) + p1)).toNatClampNeg)))
    else
    (if p2 = (2 : Int32) then
      (if ((22 : Int32) + p1) < 0 ∨ 79 ≤ (((22 : Int32) + p1)).toNatClampNeg then none else
        some ((m_now (((22 : Int32) + p1)).toNatClampNeg)))
    else
    (if p2 = (3 : Int32) then
      (if ((30 : Int32) + p1) < 0 ∨ 79 ≤ (((30 : Int32) + p1)).toNatClampNeg then none else
        some ((m_now (((30 : Int32) + p1)).toNatClampNeg)))
    else
    (if p2 = (4 : Int32) then
      some ((((m_now 2) >>> (p1 &&& (31 : Int32))) &&& (1 : Int32)))
    else
    (if p2 = (5 : Int32) then
      (match f_X7_isFree m_now p1 (m_now 2) with
      | none => none
      | some q1 =>
        (if q1 = (0 : Int32) then
          some ((0 : Int32))
        else
          some ((1 : Int32))))
    else
    (if p2 = (6 : Int32) then
      (match f_X7_firm m_now p1 with
      | none => none
      | some q2 =>
        some (q2))
    else
      some ((-1 : Int32))))))))))
def fl_X0_owedBy_4 : Nat → (Nat → Int32) → Int32 → Int32 → Int32 → Int32 → Option (Int32)
  | 0, _, _, _, _, _ => none
  | n + 1, r_t_parties, r_t_size, v1, v2, v3 =>
    (if r_t_size ≤ v3 then
      some (v2)
    else
      (if (8 : Int32) ≤ v3 then
        some (v2)
      else
        (if v3 < 0 ∨ 8 ≤ (v3).toNatClampNeg then none else
          (if (r_t_parties (v3).toNatClampNeg) = v1 then
            fl_X0_owedBy_4 n r_t_parties r_t_size v1 (v2 ||| ((1 : Int32) <<< (v3 &&& (31 : Int32)))) (v3 + (1 : Int32))
          else
            fl_X0_owedBy_4 n r_t_parties r_t_size v1 v2 (v3 + (1 : Int32))))))
def f_X0_owedBy (r_t_parties : (Nat → Int32)) (r_t_size : Int32) (p1 : Int32) : Option (Int32) :=
  fl_X0_owedBy_4 300 r_t_parties r_t_size p1 (0 : Int32) (0 : Int32)
def f_X6_party (r_t_parties : (Nat → Int32)) (r_t_size : Int32) (r_tied : Int32) (p1 : Int32) (p2 : Int32) : Option (Int32) :=
  (if (f_X6_isParty p1) = (0 : Int32) then
    some ((-1 : Int32))
  else
    (if (f_X6_isWithin p2 (0 : Int32) (1 : Int32)) = (0 : Int32) then
      some ((-1 : Int32))
    else
      (match f_X0_owedBy r_t_parties r_t_size p1 with
      | none => none
      | some q1 =>
        (if p2 = (0 : Int32) then
          some (q1)
        else
          (if (q1 &&& r_tied) = (0 : Int32) then
            some ((0 : Int32))
          else
            some ((1 : Int32)))))))
def fl_X7_owedBy_4 : Nat → (Nat → Int32) → Int32 → Int32 → Int32 → Option (Int32)
  | 0, _, _, _, _ => none
  | n + 1, m_now, v1, v2, v3 =>
    (if (m_now 5) ≤ v3 then
      some (v2)
    else
      (if ((30 : Int32) + v3) < 0 ∨ 79 ≤ (((30 : Int32) + v3)).toNatClampNeg then none else
        (if (m_now (((30 : Int32) + v3)).toNatClampNeg) = v1 then
          fl_X7_owedBy_4 n m_now v1 (v2 ||| ((1 : Int32) <<< (v3 &&& (31 : Int32)))) (v3 + (1 : Int32))
        else
          fl_X7_owedBy_4 n m_now v1 (v2 ||| (0 : Int32)) (v3 + (1 : Int32)))))
def f_X7_owedBy (m_now : (Nat → Int32)) (p1 : Int32) : Option (Int32) :=
  fl_X7_owedBy_4 300 m_now p1 (0 : Int32) (0 : Int32)
def f_X7_party (m_now : (Nat → Int32)) (p1 : Int32) (p2 : Int32) : Option (Int32) :=
  (if (f_X7_in p1 (0 : Int32) (3 : Int32)) = (0 : Int32) then
    some ((-1 : Int32))
  else
    (if (f_X7_in p2 (0 : Int32) (1 : Int32)) = (0 : Int32) then
      some ((-1 : Int32))
    else
      (if p2 = (0 : Int32) then
        (match f_X7_owedBy m_now p1 with
        | none => none
        | some q1 =>
          some (q1))
      else
        (match f_X7_owedBy m_now p1 with
        | none => none
        | some q2 =>
          (if (q2 &&& (m_now 2)) = (0 : Int32) then
            some ((0 : Int32))
          else
            some ((1 : Int32)))))))
def f_X6_owe (r_t_parties : (Nat → Int32)) (r_t_size : Int32) (p1 : Int32) (p2 : Int32) : Option (Int32 × (Nat → Int32)) :=
  (if (f_X6_isClause r_t_size p1) = (0 : Int32) then
    some ((-1 : Int32), r_t_parties)
  else
    (if (f_X6_isParty p2) = (0 : Int32) then
      some ((-1 : Int32), r_t_parties)
    else
      (if p1 < 0 ∨ 8 ≤ (p1).toNatClampNeg then none else
        (if p1 < 0 ∨ 8 ≤ (p1).toNatClampNeg then none else
          some ((r_t_parties (p1).toNatClampNeg), (upd r_t_parties (p1).toNatClampNeg p2))))))
def f_X7_owe (m_now : (Nat → Int32)) (p1 : Int32) (p2 : Int32) : Option (Int32 × (Nat → Int32)) :=
  (if (f_X7_isClause m_now p1) = (0 : Int32) then
    some ((-1 : Int32), m_now)
  else
    (if (f_X7_in p2 (0 : Int32) (3 : Int32)) = (0 : Int32) then
      some ((-1 : Int32), m_now)
    else
      (if ((30 : Int32) + p1) < 0 ∨ 79 ≤ (((30 : Int32) + p1)).toNatClampNeg then none else
        (if ((30 : Int32) + p1) < 0 ∨ 79 ≤ (((30 : Int32) + p1)).toNatClampNeg then none else
          some ((m_now (((30 : Int32) + p1)).toNatClampNeg), (upd m_now (((30 : Int32) + p1)).toNatClampNeg p2))))))
def f_X3_addLetter (d_letters : (Nat → Int32)) (d_size : Int32) (p1 : Int32) : Option (Int32 × (Nat → Int32) × Int32) :=
  (if d_size < (0 : Int32) then
    some ((-3 : Int32), d_letters, d_size)
  else
    (if d_size < (100 : Int32) then
      (if d_size < 0 ∨ 100 ≤ (d_size).toNatClampNeg then none else
        some ((d_size + (1 : Int32)), (upd d_letters (d_size).toNatClampNeg p1), (d_size + (1 : Int32))))
    else
      some ((-3 : Int32), d_letters, d_size)))
def f_X6_type (d_letters : (Nat → Int32)) (d_size : Int32) (p1 : Int32) : Option (Int32 × (Nat → Int32) × Int32) :=
  (if (f_X6_isWithin p1 (32 : Int32) (126 : Int32)) = (0 : Int32) then
    some ((-1 : Int32), d_letters, d_size)
  else
    (match f_X3_addLetter d_letters d_size p1 with
    | none => none
    | some q1 =>
      some (q1.1, q1.2.1, q1.2.2)))
def f_X7_type (m_letters : Int32) (m_tape : (Nat → Int32)) (p1 : Int32) : Option (Int32 × Int32 × (Nat → Int32)) :=
  (if (f_X7_in p1 (32 : Int32) (126 : Int32)) = (0 : Int32) then
    some ((-1 : Int32), m_letters, m_tape)
  else
    (if m_letters = (100 : Int32) then
      some ((-3 : Int32), m_letters, m_tape)
    else
      (if m_letters < 0 ∨ 100 ≤ (m_letters).toNatClampNeg then none else
        some ((m_letters + (1 : Int32)), (m_letters + (1 : Int32)), (upd m_tape (m_letters).toNatClampNeg p1)))))
def f_X3_letterAt (d_letters : (Nat → Int32)) (d_size : Int32) (p1 : Int32) : Option (Int32) :=
  (if p1 < (0 : Int32) then
    some ((-1 : Int32))
  else
    (if d_size ≤ p1 then
      some ((-1 : Int32))
    else
      (if (100 : Int32) ≤ p1 then
        some ((-1 : Int32))
      else
        (if p1 < 0 ∨ 100 ≤ (p1).toNatClampNeg then none else
          some ((d_letters (p1).toNatClampNeg))))))
def fl_X3_nextLetter_0 : Nat → (Nat → Int32) → Int32 → Int32 → Option (Int32 × Int32)
  | 0, _, _, _ => none
  | n + 1, d_letters, d_size, d_at =>
    (if d_size ≤ d_at then
      (match f_X3_letterAt d_letters d_size d_at with
      | none => none
      | some q1 =>
        some (q1, d_at))
    else
      (match f_X3_letterAt d_letters d_size d_at with
      | none => none
      | some q2 =>
        (if q2 = (32 : Int32) then
          fl_X3_nextLetter_0 n d_letters d_size (d_at + (1 : Int32))
        else
          (match f_X3_letterAt d_letters d_size d_at with
          | none => none
          | some q3 =>
            some (q3, d_at)))))
def f_X3_nextLetter (d_letters : (Nat → Int32)) (d_size : Int32) (d_at : Int32) : Option (Int32 × Int32) :=
  fl_X3_nextLetter_0 300 d_letters d_size d_at
def f_X3_kindOf (p0 : Int32) : Int32 :=
  (if p0 = (103 : Int32) then
    (4 : Int32)
  else
  (if p0 = (104 : Int32) then
    (0 : Int32)
  else
  (if p0 = (105 : Int32) then
    (-1 : Int32)
  else
  (if p0 = (106 : Int32) then
    (-1 : Int32)
  else
  (if p0 = (107 : Int32) then
    (-1 : Int32)
  else
  (if p0 = (108 : Int32) then
    (2 : Int32)
  else
  (if p0 = (109 : Int32) then
    (-1 : Int32)
  else
  (if p0 = (110 : Int32) then
    (-1 : Int32)
  else
  (if p0 = (111 : Int32) then
    (3 : Int32)
  else
  (if p0 = (112 : Int32) then
    (-1 : Int32)
  else
  (if p0 = (113 : Int32) then
    (-1 : Int32)
  else
  (if p0 = (114 : Int32) then
    (-1 : Int32)
  else
  (if p0 = (115 : Int32) then
    (1 : Int32)
  else
    (-1 : Int32))))))))))))))
def f_X3_isDigit (p0 : Int32) : Int32 :=
  (if p0 < (48 : Int32) then
    (0 : Int32)
  else
    (if (57 : Int32) < p0 then
      (0 : Int32)
    else
      (1 : Int32)))
def f_X3_readHolds (d_letters : (Nat → Int32)) (d_size : Int32) (d_at : Int32) : Option (Int32 × Int32) :=
  (match f_X3_nextLetter d_letters d_size d_at with
  | none => none
  | some q1 =>
    (if (f_X3_isDigit q1.1) = (0 : Int32) then
      some ((-1 : Int32), q1.2)
    else
      (match f_X3_letterAt d_letters d_size q1.2 with
      | none => none
      | some q2 =>
        (match f_X3_letterAt d_letters d_size (q1.2 + (1 : Int32)) with
        | none => none
        | some q3 =>
          (if (f_X3_isDigit q3) = (0 : Int32) then
            (if (f_X6_isWithin (q2 - (48 : Int32)) (1 : Int32) (20 : Int32)) = (0 : Int32) then
              some ((-1 : Int32), q1.2)
            else
              some ((q2 - (48 : Int32)), (q1.2 + (1 : Int32))))
          else
            (match f_X3_letterAt d_letters d_size (q1.2 + (1 : Int32)) with
            | none => none
            | some q4 =>
              (if (f_X6_isWithin ((((10 : Int32) * (q2 - (48 : Int32))) + q4) - (48 : Int32)) (1 : Int32) (20 : Int32)) = (0 : Int32) then
                some ((-1 : Int32), q1.2)
              else
                some (((((10 : Int32) * (q2 - (48 : Int32))) + q4) - (48 : Int32)), ((q1.2 + (1 : Int32)) + (1 : Int32))))))))))
def fl_X3_readBarred_6 : Nat → (Nat → Int32) → Int32 → Int32 → Int32 → Int32 → Int32 → Int32 → Option (Int32 × Int32)
  | 0, _, _, _, _, _, _, _ => none
  | n + 1, d_letters, d_t_size, d_size, d_at, v1, v2, v3 =>
    (if (8 : Int32) ≤ v3 then
      some (v1, d_at)
    else
      (match f_X3_nextLetter d_letters d_size d_at with
      | none => none
      | some q1 =>
        (if (q1.1 - (48 : Int32)) < v2 then
          some (v1, q1.2)
        else
          (if (q1.1 - (48 : Int32)) < d_t_size then
            fl_X3_readBarred_6 n d_letters d_t_size d_size (q1.2 + (1 : Int32)) (v1 ||| ((1 : Int32) <<< ((q1.1 - (48 : Int32)) &&& (31 : Int32)))) ((q1.1 - (48 : Int32)) + (1 : Int32)) (v3 + (1 : Int32))
          else
            some (v1, q1.2)))))
def f_X3_readBarred (d_letters : (Nat → Int32)) (d_t_size : Int32) (d_size : Int32) (d_at : Int32) : Option (Int32 × Int32) :=
  fl_X3_readBarred_6 300 d_letters d_t_size d_size d_at (0 : Int32) (0 : Int32) (0 : Int32)
def f_X0_add_1 (d_t_kinds : (Nat → Int32)) (d_t_holds : (Nat → Int32)) (d_t_barred : (Nat → Int32)) (d_t_parties : (Nat → Int32)) (d_t_size : Int32) (p1 : Int32) (p2 : Int32) (p3 : Int32) (p4 : Int32) : Option (Int32 × (Nat → Int32) × (Nat → Int32) × (Nat → Int32) × (Nat → Int32) × Int32) :=
  (if d_t_size < (0 : Int32) then
    some ((-3 : Int32), d_t_kinds, d_t_holds, d_t_barred, d_t_parties, d_t_size)
  else
    (if d_t_size < (8 : Int32) then
      (if d_t_size < 0 ∨ 8 ≤ (d_t_size).toNatClampNeg then none else
        (if d_t_size < 0 ∨ 8 ≤ (d_t_size).toNatClampNeg then none else
          (if d_t_size < 0 ∨ 8 ≤ (d_t_size).toNatClampNeg then none else
            (if d_t_size < 0 ∨ 8 ≤ (d_t_size).toNatClampNeg then none else
              some (d_t_size, (upd d_t_kinds (d_t_size).toNatClampNeg p1), (upd d_t_holds (d_t_size).toNatClampNeg p2), (upd d_t_barred (d_t_size).toNatClampNeg p3), (upd d_t_parties (d_t_size).toNatClampNeg p4), (d_t_size + (1 : Int32)))))))
    else
      some ((-3 : Int32), d_t_kinds, d_t_holds, d_t_barred, d_t_parties, d_t_size)))
def f_X3_readClause (d_letters : (Nat → Int32)) (d_t_kinds : (Nat → Int32)) (d_t_holds : (Nat → Int32)) (d_t_barred : (Nat → Int32)) (d_t_parties : (Nat → Int32)) (d_t_size : Int32) (d_size : Int32) (d_at : Int32) : Option (Int32 × (Nat → Int32) × (Nat → Int32) × (Nat → Int32) × (Nat → Int32) × Int32 × Int32) :=
  (match f_X3_nextLetter d_letters d_size d_at with
  | none => none
  | some q1 =>
    (if (0 : Int32) ≤ (f_X3_kindOf q1.1) then
      (match f_X3_readHolds d_letters d_size (q1.2 + (1 : Int32)) with
      | none => none
      | some q2 =>
        (if (0 : Int32) ≤ q2.1 then
          (match f_X3_nextLetter d_letters d_size q2.2 with
          | none => none
          | some q3 =>
            (if q3.1 = (47 : Int32) then
              (match f_X3_readBarred d_letters d_t_size d_size (q3.2 + (1 : Int32)) with
              | none => none
              | some q4 =>
                (if q4.1 = (0 : Int32) then
                  some ((0 : Int32), d_t_kinds, d_t_holds, d_t_barred, d_t_parties, d_t_size, q4.2)
                else
                  (match f_X3_nextLetter d_letters d_size q4.2 with
                  | none => none
                  | some q5 =>
                    (if q5.1 = (64 : Int32) then
                      (match f_X3_nextLetter d_letters d_size (q5.2 + (1 : Int32)) with
                      | none => none
                      | some q6 =>
                        (if (f_X6_isParty (q6.1 - (48 : Int32))) = (0 : Int32) then
                          some ((0 : Int32), d_t_kinds, d_t_holds, d_t_barred, d_t_parties, d_t_size, q6.2)
                        else
                          (match f_X0_add_1 d_t_kinds d_t_holds d_t_barred d_t_parties d_t_size (f_X3_kindOf q1.1) q2.1 q4.1 (q6.1 - (48 : Int32)) with
                          | none => none
                          | some q7 =>
                            (if q7.1 < (0 : Int32) then
                              some ((0 : Int32), q7.2.1, q7.2.2.1, q7.2.2.2.1, q7.2.2.2.2.1, q7.2.2.2.2.2, (q6.2 + (1 : Int32)))
                            else
                              some ((1 : Int32), q7.2.1, q7.2.2.1, q7.2.2.2.1, q7.2.2.2.2.1, q7.2.2.2.2.2, (q6.2 + (1 : Int32)))))))
                    else
                      (match f_X0_add_1 d_t_kinds d_t_holds d_t_barred d_t_parties d_t_size (f_X3_kindOf q1.1) q2.1 q4.1 (0 : Int32) with
                      | none => none
                      | some q8 =>
                        (if q8.1 < (0 : Int32) then
                          some ((0 : Int32), q8.2.1, q8.2.2.1, q8.2.2.2.1, q8.2.2.2.2.1, q8.2.2.2.2.2, q5.2)
                        else
                          some ((1 : Int32), q8.2.1, q8.2.2.1, q8.2.2.2.1, q8.2.2.2.2.1, q8.2.2.2.2.2, q5.2)))))))
            else
              (match f_X3_nextLetter d_letters d_size q3.2 with
              | none => none
              | some q9 =>
                (if q9.1 = (64 : Int32) then
                  (match f_X3_nextLetter d_letters d_size (q9.2 + (1 : Int32)) with
                  | none => none
                  | some q10 =>
                    (if (f_X6_isParty (q10.1 - (48 : Int32))) = (0 : Int32) then
                      some ((0 : Int32), d_t_kinds, d_t_holds, d_t_barred, d_t_parties, d_t_size, q10.2)
                    else
                      (match f_X0_add_1 d_t_kinds d_t_holds d_t_barred d_t_parties d_t_size (f_X3_kindOf q1.1) q2.1 (0 : Int32) (q10.1 - (48 : Int32)) with
                      | none => none
                      | some q11 =>
                        (if q11.1 < (0 : Int32) then
                          some ((0 : Int32), q11.2.1, q11.2.2.1, q11.2.2.2.1, q11.2.2.2.2.1, q11.2.2.2.2.2, (q10.2 + (1 : Int32)))
                        else
                          some ((1 : Int32), q11.2.1, q11.2.2.1, q11.2.2.2.1, q11.2.2.2.2.1, q11.2.2.2.2.2, (q10.2 + (1 : Int32)))))))
                else
                  (match f_X0_add_1 d_t_kinds d_t_holds d_t_barred d_t_parties d_t_size (f_X3_kindOf q1.1) q2.1 (0 : Int32) (0 : Int32) with
                  | none => none
                  | some q12 =>
                    (if q12.1 < (0 : Int32) then
                      some ((0 : Int32), q12.2.1, q12.2.2.1, q12.2.2.2.1, q12.2.2.2.2.1, q12.2.2.2.2.2, q9.2)
                    else
                      some ((1 : Int32), q12.2.1, q12.2.2.1, q12.2.2.2.1, q12.2.2.2.2.1, q12.2.2.2.2.2, q9.2)))))))
        else
          some ((0 : Int32), d_t_kinds, d_t_holds, d_t_barred, d_t_parties, d_t_size, q2.2)))
    else
      some ((0 : Int32), d_t_kinds, d_t_holds, d_t_barred, d_t_parties, d_t_size, q1.2)))
def fl_X3_readClauses_2 : Nat → (Nat → Int32) → (Nat → Int32) → (Nat → Int32) → (Nat → Int32) → (Nat → Int32) → Int32 → Int32 → Int32 → Int32 → Option (Int32 × (Nat → Int32) × (Nat → Int32) × (Nat → Int32) × (Nat → Int32) × Int32 × Int32)
  | 0, _, _, _, _, _, _, _, _, _ => none
  | n + 1, d_letters, d_t_kinds, d_t_holds, d_t_barred, d_t_parties, d_t_size, d_size, d_at, v1 =>
    (if (8 : Int32) < v1 then
      some ((0 : Int32), d_t_kinds, d_t_holds, d_t_barred, d_t_parties, d_t_size, d_at)
    else
      (match f_X3_readClause d_letters d_t_kinds d_t_holds d_t_barred d_t_parties d_t_size d_size d_at with
      | none => none
      | some q1 =>
        (if q1.1 = (0 : Int32) then
          some ((0 : Int32), q1.2.1, q1.2.2.1, q1.2.2.2.1, q1.2.2.2.2.1, q1.2.2.2.2.2.1, q1.2.2.2.2.2.2)
        else
          (match f_X3_nextLetter d_letters d_size q1.2.2.2.2.2.2 with
          | none => none
          | some q2 =>
            (if q2.1 = (-1 : Int32) then
              some ((1 : Int32), q1.2.1, q1.2.2.1, q1.2.2.2.1, q1.2.2.2.2.1, q1.2.2.2.2.2.1, q2.2)
            else
              (if q2.1 = (44 : Int32) then
                (if v1 = (8 : Int32) then
                  some ((0 : Int32), q1.2.1, q1.2.2.1, q1.2.2.2.1, q1.2.2.2.2.1, q1.2.2.2.2.2.1, q2.2)
                else
                  fl_X3_readClauses_2 n d_letters q1.2.1 q1.2.2.1 q1.2.2.2.1 q1.2.2.2.2.1 q1.2.2.2.2.2.1 d_size (q2.2 + (1 : Int32)) (v1 + (1 : Int32)))
              else
                some ((0 : Int32), q1.2.1, q1.2.2.1, q1.2.2.2.1, q1.2.2.2.2.1, q1.2.2.2.2.2.1, q2.2)))))))
def f_X3_readClauses (d_letters : (Nat → Int32)) (d_t_kinds : (Nat → Int32)) (d_t_holds : (Nat → Int32)) (d_t_barred : (Nat → Int32)) (d_t_parties : (Nat → Int32)) (d_t_size : Int32) (d_size : Int32) (d_at : Int32) : Option (Int32 × (Nat → Int32) × (Nat → Int32) × (Nat → Int32) × (Nat → Int32) × Int32 × Int32) :=
  fl_X3_readClauses_2 300 d_letters d_t_kinds d_t_holds d_t_barred d_t_parties d_t_size d_size d_at (1 : Int32)
def f_X3_readTape (d_letters : (Nat → Int32)) (d_t_kinds : (Nat → Int32)) (d_t_holds : (Nat → Int32)) (d_t_barred : (Nat → Int32)) (d_t_parties : (Nat → Int32)) (d_t_size : Int32) (d_size : Int32) (d_at : Int32) : Option (Int32 × (Nat → Int32) × (Nat → Int32) × (Nat → Int32) × (Nat → Int32) × Int32 × Int32 × Int32) :=
  (match f_X3_readClauses d_letters d_t_kinds d_t_holds d_t_barred d_t_parties (0 : Int32) d_size (0 : Int32) with
  | none => none
  | some q1 =>
    (if q1.1 = (0 : Int32) then
      some (((-20 : Int32) - q1.2.2.2.2.2.2), q1.2.1, q1.2.2.1, q1.2.2.2.1, q1.2.2.2.2.1, q1.2.2.2.2.2.1, (0 : Int32), q1.2.2.2.2.2.2)
    else
      some (q1.2.2.2.2.2.1, q1.2.1, q1.2.2.1, q1.2.2.2.1, q1.2.2.2.2.1, q1.2.2.2.2.2.1, (0 : Int32), q1.2.2.2.2.2.2)))
def f_X0_become (r_t_kinds : (Nat → Int32)) (r_t_holds : (Nat → Int32)) (r_t_barred : (Nat → Int32)) (r_t_parties : (Nat → Int32)) (r_t_size : Int32) (d_t_kinds : (Nat → Int32)) (d_t_holds : (Nat → Int32)) (d_t_barred : (Nat → Int32)) (d_t_parties : (Nat → Int32)) (d_t_size : Int32) : Option ((Nat → Int32) × (Nat → Int32) × (Nat → Int32) × (Nat → Int32) × Int32) :=
  some ((va_cpy d_t_kinds r_t_kinds 0 0 8), (va_cpy d_t_holds r_t_holds 0 0 8), (va_cpy d_t_barred r_t_barred 0 0 8), (va_cpy d_t_parties r_t_parties 0 0 8), d_t_size)
def f_X4_startWith (r_t_kinds : (Nat → Int32)) (r_t_holds : (Nat → Int32)) (r_t_barred : (Nat → Int32)) (r_t_parties : (Nat → Int32)) (r_t_size : Int32) (r_p_size : Int32) (r_tied : Int32) (r_wars : Int32) (r_wet : Int32) (r_day : Int32) (d_t_kinds : (Nat → Int32)) (d_t_holds : (Nat → Int32)) (d_t_barred : (Nat → Int32)) (d_t_parties : (Nat → Int32)) (d_t_size : Int32) : Option ((Nat → Int32) × (Nat → Int32) × (Nat → Int32) × (Nat → Int32) × Int32 × Int32 × Int32 × Int32 × Int32 × Int32) :=
  (match f_X0_become r_t_kinds r_t_holds r_t_barred r_t_parties r_t_size d_t_kinds d_t_holds d_t_barred d_t_parties d_t_size with
  | none => none
  | some q1 =>
    some (q1.1, q1.2.1, q1.2.2.1, q1.2.2.2.1, q1.2.2.2.2, (0 : Int32), (((1 : Int32) <<< (q1.2.2.2.2 &&& (31 : Int32))) - (1 : Int32)), (0 : Int32), (0 : Int32), (0 : Int32)))
def f_X6_agreement (r_t_kinds : (Nat → Int32)) (r_t_holds : (Nat → Int32)) (r_t_barred : (Nat → Int32)) (r_t_parties : (Nat → Int32)) (r_t_size : Int32) (r_p_size : Int32) (r_tied : Int32) (r_wars : Int32) (r_wet : Int32) (r_day : Int32) (d_letters : (Nat → Int32)) (d_t_kinds : (Nat → Int32)) (d_t_holds : (Nat → Int32)) (d_t_barred : (Nat → Int32)) (d_t_parties : (Nat → Int32)) (d_t_size : Int32) (d_size : Int32) (d_at : Int32) : Option (Int32 × (Nat → Int32) × (Nat → Int32) × (Nat → Int32) × (Nat → Int32) × Int32 × Int32 × Int32 × Int32 × Int32 × Int32 × (Nat → Int32) × (Nat → Int32) × (Nat → Int32) × (Nat → Int32) × Int32 × Int32 × Int32) :=
  (match f_X3_readTape d_letters d_t_kinds d_t_holds d_t_barred d_t_parties d_t_size d_size d_at with
  | none => none
  | some q1 =>
    (if q1.1 ≤ (0 : Int32) then
      some (q1.1, r_t_kinds, r_t_holds, r_t_barred, r_t_parties, r_t_size, r_p_size, r_tied, r_wars, r_wet, r_day, q1.2.1, q1.2.2.1, q1.2.2.2.1, q1.2.2.2.2.1, q1.2.2.2.2.2.1, q1.2.2.2.2.2.2.1, q1.2.2.2.2.2.2.2)
    else
      (match f_X4_startWith r_t_kinds r_t_holds r_t_barred r_t_parties r_t_size r_p_size r_tied r_wars r_wet r_day q1.2.1 q1.2.2.1 q1.2.2.2.1 q1.2.2.2.2.1 q1.2.2.2.2.2.1 with
      | none => none
      | some q2 =>
        some (q1.1, q2.1, q2.2.1, q2.2.2.1, q2.2.2.2.1, q2.2.2.2.2.1, q2.2.2.2.2.2.1, q2.2.2.2.2.2.2.1, q2.2.2.2.2.2.2.2.1, q2.2.2.2.2.2.2.2.2.1, q2.2.2.2.2.2.2.2.2.2, q1.2.1, q1.2.2.1, q1.2.2.2.1, q1.2.2.2.2.1, q1.2.2.2.2.2.1, q1.2.2.2.2.2.2.1, q1.2.2.2.2.2.2.2))))
def fl_X7_peek_0 : Nat → Int32 → (Nat → Int32) → Int32 → Option (Int32 × Int32)
  | 0, _, _, _ => none
  | n + 1, m_letters, m_tape, m_position =>
    (if m_letters ≤ m_position then
      (if m_letters ≤ m_position then
        some ((0 : Int32), m_position)
      else
        (if m_position < 0 ∨ 100 ≤ (m_position).toNatClampNeg then none else
          some ((m_tape (m_position).toNatClampNeg), m_position)))
    else
      (if m_position < 0 ∨ 100 ≤ (m_position).toNatClampNeg then none else
        (if (m_tape (m_position).toNatClampNeg) = (32 : Int32) then
          fl_X7_peek_0 n m_letters m_tape (m_position + (1 : Int32))
        else
          (if m_letters ≤ m_position then
            some ((0 : Int32), m_position)
          else
            (if m_position < 0 ∨ 100 ≤ (m_position).toNatClampNeg then none else
              some ((m_tape (m_position).toNatClampNeg), m_position))))))
def f_X7_peek (m_letters : Int32) (m_tape : (Nat → Int32)) (m_position : Int32) : Option (Int32 × Int32) :=
  fl_X7_peek_0 300 m_letters m_tape m_position
def f_X7_kindBy (p0 : Int32) : Int32 :=
  (if p0 = (104 : Int32) then
    (0 : Int32)
  else
    (if p0 = (115 : Int32) then
      (1 : Int32)
    else
      (if p0 = (108 : Int32) then
        (2 : Int32)
      else
        (if p0 = (111 : Int32) then
          (3 : Int32)
        else
          (if p0 = (103 : Int32) then
            (4 : Int32)
          else
            (-1 : Int32))))))
def f_X7_isDigit (m_letters : Int32) (m_tape : (Nat → Int32)) (m_position : Int32) (m_number : Int32) (p1 : Int32) (p2 : Int32) : Option (Int32 × Int32 × Int32) :=
  (match f_X7_peek m_letters m_tape m_position with
  | none => none
  | some q1 =>
    (if (f_X7_in (q1.1 - (48 : Int32)) p1 p2) = (0 : Int32) then
      some ((0 : Int32), q1.2, (q1.1 - (48 : Int32)))
    else
      some ((1 : Int32), (q1.2 + (1 : Int32)), (q1.1 - (48 : Int32)))))
def f_X7_isNumber (m_letters : Int32) (m_tape : (Nat → Int32)) (m_position : Int32) (m_number : Int32) : Option (Int32 × Int32 × Int32) :=
  (match f_X7_isDigit m_letters m_tape m_position m_number (0 : Int32) (9 : Int32) with
  | none => none
  | some q1 =>
    (if q1.1 = (0 : Int32) then
      some ((0 : Int32), q1.2.1, q1.2.2)
    else
      (if m_letters ≤ q1.2.1 then
        (if (f_X7_in q1.2.2 (1 : Int32) (20 : Int32)) = (0 : Int32) then
          (if (f_X7_in q1.2.2 (1 : Int32) (20 : Int32)) = (0 : Int32) then
            some ((0 : Int32), (q1.2.1 - (1 : Int32)), q1.2.2)
          else
            (if (q1.2.1 - (1 : Int32)) = m_letters then
              some ((1 : Int32), (q1.2.1 - (1 : Int32)), q1.2.2)
            else
              (if (q1.2.1 - (1 : Int32)) < 0 ∨ 100 ≤ ((q1.2.1 - (1 : Int32))).toNatClampNeg then none else
                (if (f_X7_in (m_tape ((q1.2.1 - (1 : Int32))).toNatClampNeg) (48 : Int32) (57 : Int32)) = (0 : Int32) then
                  some ((1 : Int32), (q1.2.1 - (1 : Int32)), q1.2.2)
                else
                  some ((0 : Int32), (q1.2.1 - (1 : Int32)), q1.2.2)))))
        else
          (if (f_X7_in q1.2.2 (1 : Int32) (20 : Int32)) = (0 : Int32) then
            some ((0 : Int32), q1.2.1, q1.2.2)
          else
            (if q1.2.1 = m_letters then
              some ((1 : Int32), q1.2.1, q1.2.2)
            else
              (if q1.2.1 < 0 ∨ 100 ≤ (q1.2.1).toNatClampNeg then none else
                (if (f_X7_in (m_tape (q1.2.1).toNatClampNeg) (48 : Int32) (57 : Int32)) = (0 : Int32) then
                  some ((1 : Int32), q1.2.1, q1.2.2)
                else
                  some ((0 : Int32), q1.2.1, q1.2.2))))))
      else
        (if q1.2.1 < 0 ∨ 100 ≤ (q1.2.1).toNatClampNeg then none else
          (if (f_X7_in (m_tape (q1.2.1).toNatClampNeg) (48 : Int32) (57 : Int32)) = (0 : Int32) then
            (if (f_X7_in q1.2.2 (1 : Int32) (20 : Int32)) = (0 : Int32) then
              (if (f_X7_in q1.2.2 (1 : Int32) (20 : Int32)) = (0 : Int32) then
                some ((0 : Int32), (q1.2.1 - (1 : Int32)), q1.2.2)
              else
                (if (q1.2.1 - (1 : Int32)) = m_letters then
                  some ((1 : Int32), (q1.2.1 - (1 : Int32)), q1.2.2)
                else
                  (if (q1.2.1 - (1 : Int32)) < 0 ∨ 100 ≤ ((q1.2.1 - (1 : Int32))).toNatClampNeg then none else
                    (if (f_X7_in (m_tape ((q1.2.1 - (1 : Int32))).toNatClampNeg) (48 : Int32) (57 : Int32)) = (0 : Int32) then
                      some ((1 : Int32), (q1.2.1 - (1 : Int32)), q1.2.2)
                    else
                      some ((0 : Int32), (q1.2.1 - (1 : Int32)), q1.2.2)))))
            else
              (if (f_X7_in q1.2.2 (1 : Int32) (20 : Int32)) = (0 : Int32) then
                some ((0 : Int32), q1.2.1, q1.2.2)
              else
                (if q1.2.1 = m_letters then
                  some ((1 : Int32), q1.2.1, q1.2.2)
                else
                  (if q1.2.1 < 0 ∨ 100 ≤ (q1.2.1).toNatClampNeg then none else
                    (if (f_X7_in (m_tape (q1.2.1).toNatClampNeg) (48 : Int32) (57 : Int32)) = (0 : Int32) then
                      some ((1 : Int32), q1.2.1, q1.2.2)
                    else
                      some ((0 : Int32), q1.2.1, q1.2.2))))))
          else
            (if q1.2.1 < 0 ∨ 100 ≤ (q1.2.1).toNatClampNeg then none else
              (if (f_X7_in ((((10 : Int32) * q1.2.2) + (m_tape (q1.2.1).toNatClampNeg)) - (48 : Int32)) (1 : Int32) (20 : Int32)) = (0 : Int32) then
                (if (f_X7_in ((((10 : Int32) * q1.2.2) + (m_tape (q1.2.1).toNatClampNeg)) - (48 : Int32)) (1 : Int32) (20 : Int32)) = (0 : Int32) then
                  some ((0 : Int32), (q1.2.1 - (1 : Int32)), ((((10 : Int32) * q1.2.2) + (m_tape (q1.2.1).toNatClampNeg)) - (48 : Int32)))
                else
                  (if (q1.2.1 - (1 : Int32)) = m_letters then
                    some ((1 : Int32), (q1.2.1 - (1 : Int32)), ((((10 : Int32) * q1.2.2) + (m_tape (q1.2.1).toNatClampNeg)) - (48 : Int32)))
                  else
                    (if (q1.2.1 - (1 : Int32)) < 0 ∨ 100 ≤ ((q1.2.1 - (1 : Int32))).toNatClampNeg then none else
                      (if (f_X7_in (m_tape ((q1.2.1 - (1 : Int32))).toNatClampNeg) (48 : Int32) (57 : Int32)) = (0 : Int32) then
                        some ((1 : Int32), (q1.2.1 - (1 : Int32)), ((((10 : Int32) * q1.2.2) + (m_tape (q1.2.1).toNatClampNeg)) - (48 : Int32)))
                      else
                        some ((0 : Int32), (q1.2.1 - (1 : Int32)), ((((10 : Int32) * q1.2.2) + (m_tape (q1.2.1).toNatClampNeg)) - (48 : Int32)))))))
              else
                (if (f_X7_in ((((10 : Int32) * q1.2.2) + (m_tape (q1.2.1).toNatClampNeg)) - (48 : Int32)) (1 : Int32) (20 : Int32)) = (0 : Int32) then
                  some ((0 : Int32), (q1.2.1 + (1 : Int32)), ((((10 : Int32) * q1.2.2) + (m_tape (q1.2.1).toNatClampNeg)) - (48 : Int32)))
                else
                  (if (q1.2.1 + (1 : Int32)) = m_letters then
                    some ((1 : Int32), (q1.2.1 + (1 : Int32)), ((((10 : Int32) * q1.2.2) + (m_tape (q1.2.1).toNatClampNeg)) - (48 : Int32)))
                  else
                    (if (q1.2.1 + (1 : Int32)) < 0 ∨ 100 ≤ ((q1.2.1 + (1 : Int32))).toNatClampNeg then none else
                      (if (f_X7_in (m_tape ((q1.2.1 + (1 : Int32))).toNatClampNeg) (48 : Int32) (57 : Int32)) = (0 : Int32) then
                        some ((1 : Int32), (q1.2.1 + (1 : Int32)), ((((10 : Int32) * q1.2.2) + (m_tape (q1.2.1).toNatClampNeg)) - (48 : Int32)))
                      else
                        some ((0 : Int32), (q1.2.1 + (1 : Int32)), ((((10 : Int32) * q1.2.2) + (m_tape (q1.2.1).toNatClampNeg)) - (48 : Int32))))))))))))))
def f_X7_isSign (m_letters : Int32) (m_tape : (Nat → Int32)) (m_position : Int32) (p1 : Int32) : Option (Int32 × Int32) :=
  (match f_X7_peek m_letters m_tape m_position with
  | none => none
  | some q1 =>
    (if q1.1 = p1 then
      some ((1 : Int32), (q1.2 + (1 : Int32)))
    else
      some ((0 : Int32), q1.2)))
def f_X7_add_1 (m_read : (Nat → Int32)) (p1 : Int32) (p2 : Int32) (p3 : Int32) (p4 : Int32) : Option (Int32 × (Nat → Int32)) :=
  (if ((6 : Int32) + (m_read 5)) < 0 ∨ 79 ≤ (((6 : Int32) + (m_read 5))).toNatClampNeg then none else
    (if ((14 : Int32) + (m_read 5)) < 0 ∨ 79 ≤ (((14 : Int32) + (m_read 5))).toNatClampNeg then none else
      (if ((22 : Int32) + (m_read 5)) < 0 ∨ 79 ≤ (((22 : Int32) + (m_read 5))).toNatClampNeg then none else
        (if ((30 : Int32) + (m_read 5)) < 0 ∨ 79 ≤ (((30 : Int32) + (m_read 5))).toNatClampNeg then none else
          some ((m_read 5), (upd (upd (upd (upd (upd (upd m_read (((6 : Int32) + (m_read 5))).toNatClampNeg p1) (((14 : Int32) + (m_read 5))).toNatClampNeg p2) (((22 : Int32) + (m_read 5))).toNatClampNeg p3) (((30 : Int32) + (m_read 5))).toNatClampNeg p4) 2 (((upd (upd (upd (upd m_read (((6 : Int32) + (m_read 5))).toNatClampNeg p1) (((14 : Int32) + (m_read 5))).toNatClampNeg p2) (((22 : Int32) + (m_read 5))).toNatClampNeg p3) (((30 : Int32) + (m_read 5))).toNatClampNeg p4) 2) ||| ((1 : Int32) <<< ((m_read 5) &&& (31 : Int32))))) 5 (((upd (upd (upd (upd (upd m_read (((6 : Int32) + (m_read 5))).toNatClampNeg p1) (((14 : Int32) + (m_read 5))).toNatClampNeg p2) (((22 : Int32) + (m_read 5))).toNatClampNeg p3) (((30 : Int32) + (m_read 5))).toNatClampNeg p4) 2 (((upd (upd (upd (upd m_read (((6 : Int32) + (m_read 5))).toNatClampNeg p1) (((14 : Int32) + (m_read 5))).toNatClampNeg p2) (((22 : Int32) + (m_read 5))).toNatClampNeg p3) (((30 : Int32) + (m_read 5))).toNatClampNeg p4) 2) ||| ((1 : Int32) <<< ((m_read 5) &&& (31 : Int32))))) 5) + (1 : Int32))))))))
def fl_X7_isClauseItem_78 : Nat → Int32 → (Nat → Int32) → Int32 → Int32 → (Nat → Int32) → Int32 → Int32 → Int32 → Int32 → Option (Int32 × Int32 × Int32 × (Nat → Int32))
  | 0, _, _, _, _, _, _, _, _, _ => none
  | n + 1, m_letters, m_tape, m_position, m_number, m_read, v1, v2, v3, v4 =>
    (match f_X7_peek m_letters m_tape m_position with
    | none => none
    | some q9 =>
      (if (f_X7_in q9.1 (48 : Int32) (57 : Int32)) = (0 : Int32) then
        (match f_X7_isSign m_letters m_tape q9.2 (64 : Int32) with
        | none => none
        | some q10 =>
          (if q10.1 = (0 : Int32) then
            (match f_X7_add_1 m_read v1 v2 v3 (0 : Int32) with
            | none => none
            | some q11 =>
              some ((1 : Int32), q10.2, m_number, q11.2))
          else
            (match f_X7_isDigit m_letters m_tape q10.2 m_number (0 : Int32) (3 : Int32) with
            | none => none
            | some q12 =>
              (if q12.1 = (0 : Int32) then
                some ((0 : Int32), q12.2.1, q12.2.2, m_read)
              else
                (match f_X7_add_1 m_read v1 v2 v3 q12.2.2 with
                | none => none
                | some q13 =>
                  some ((1 : Int32), q12.2.1, q12.2.2, q13.2))))))
      else
        (match f_X7_isDigit m_letters m_tape q9.2 m_number (v4 + (1 : Int32)) ((m_read 5) - (1 : Int32)) with
        | none => none
        | some q14 =>
          (if q14.1 = (0 : Int32) then
            some ((0 : Int32), q14.2.1, q14.2.2, m_read)
          else
            fl_X7_isClauseItem_78 n m_letters m_tape q14.2.1 q14.2.2 m_read v1 v2 (v3 ||| ((1 : Int32) <<< (q14.2.2 &&& (31 : Int32)))) q14.2.2))))
def f_X7_isClauseItem (m_letters : Int32) (m_tape : (Nat → Int32)) (m_position : Int32) (m_number : Int32) (m_read : (Nat → Int32)) : Option (Int32 × Int32 × Int32 × (Nat → Int32)) :=
  (match f_X7_peek m_letters m_tape m_position with
  | none => none
  | some q1 =>
    (if (0 : Int32) ≤ (f_X7_kindBy q1.1) then
      (match f_X7_isNumber m_letters m_tape (q1.2 + (1 : Int32)) m_number with
      | none => none
      | some q2 =>
        (if q2.1 = (0 : Int32) then
          some ((0 : Int32), q2.2.1, q2.2.2, m_read)
        else
          (match f_X7_isSign m_letters m_tape q2.2.1 (47 : Int32) with
          | none => none
          | some q3 =>
            (if q3.1 = (0 : Int32) then
              (match f_X7_isSign m_letters m_tape q3.2 (64 : Int32) with
              | none => none
              | some q4 =>
                (if q4.1 = (0 : Int32) then
                  (match f_X7_add_1 m_read (f_X7_kindBy q1.1) q2.2.2 (0 : Int32) (0 : Int32) with
                  | none => none
                  | some q5 =>
                    some ((1 : Int32), q4.2, q2.2.2, q5.2))
                else
                  (match f_X7_isDigit m_letters m_tape q4.2 q2.2.2 (0 : Int32) (3 : Int32) with
                  | none => none
                  | some q6 =>
                    (if q6.1 = (0 : Int32) then
                      some ((0 : Int32), q6.2.1, q6.2.2, m_read)
                    else
                      (match f_X7_add_1 m_read (f_X7_kindBy q1.1) q2.2.2 (0 : Int32) q6.2.2 with
                      | none => none
                      | some q7 =>
                        some ((1 : Int32), q6.2.1, q6.2.2, q7.2))))))
            else
              (match f_X7_isDigit m_letters m_tape q3.2 q2.2.2 (0 : Int32) ((m_read 5) - (1 : Int32)) with
              | none => none
              | some q8 =>
                (if q8.1 = (0 : Int32) then
                  some ((0 : Int32), q8.2.1, q8.2.2, m_read)
                else
                  fl_X7_isClauseItem_78 300 m_letters m_tape q8.2.1 q8.2.2 m_read (f_X7_kindBy q1.1) q2.2.2 ((1 : Int32) <<< (q8.2.2 &&& (31 : Int32))) q8.2.2))))))
    else
      some ((0 : Int32), q1.2, m_number, m_read)))
def fl_X7_isAgreement_2 : Nat → Int32 → (Nat → Int32) → Int32 → Int32 → (Nat → Int32) → Int32 → Option (Int32 × Int32 × Int32 × (Nat → Int32))
  | 0, _, _, _, _, _, _ => none
  | n + 1, m_letters, m_tape, m_position, m_number, m_read, v1 =>
    (if v1 = (0 : Int32) then
      (match f_X7_peek m_letters m_tape m_position with
      | none => none
      | some q1 =>
        (if q1.1 = (0 : Int32) then
          some ((1 : Int32), q1.2, m_number, m_read)
        else
          some ((0 : Int32), q1.2, m_number, m_read)))
    else
      (match f_X7_isClauseItem m_letters m_tape m_position m_number m_read with
      | none => none
      | some q2 =>
        (if q2.1 = (0 : Int32) then
          some ((0 : Int32), q2.2.1, q2.2.2.1, q2.2.2.2)
        else
          (if (8 : Int32) ≤ (q2.2.2.2 5) then
            fl_X7_isAgreement_2 n m_letters m_tape q2.2.1 q2.2.2.1 q2.2.2.2 (0 : Int32)
          else
            (match f_X7_isSign m_letters m_tape q2.2.1 (44 : Int32) with
            | none => none
            | some q3 =>
              (if q3.1 = (0 : Int32) then
                fl_X7_isAgreement_2 n m_letters m_tape q3.2 q2.2.2.1 q2.2.2.2 (0 : Int32)
              else
                fl_X7_isAgreement_2 n m_letters m_tape q3.2 q2.2.2.1 q2.2.2.2 (1 : Int32)))))))
def f_X7_isAgreement (m_letters : Int32) (m_tape : (Nat → Int32)) (m_position : Int32) (m_number : Int32) (m_read : (Nat → Int32)) : Option (Int32 × Int32 × Int32 × (Nat → Int32)) :=
  fl_X7_isAgreement_2 300 m_letters m_tape m_position m_number m_read (1 : Int32)
def fl_X7_bring_3 : Nat → (Nat → Int32) → (Nat → Int32) → Int32 → Int32 → Int32 → Int32 → Option ((Nat → Int32))
  | 0, _, _, _, _, _, _ => none
  | n + 1, m_now, m_read, v1, v3, v4, v5 =>
    (if v4 ≤ v5 then
      some (m_now)
    else
      (if (v1 + v5) < 0 ∨ 79 ≤ ((v1 + v5)).toNatClampNeg then none else
        (if (v3 + v5) < 0 ∨ 79 ≤ ((v3 + v5)).toNatClampNeg then none else
          fl_X7_bring_3 n (upd m_now ((v3 + v5)).toNatClampNeg (m_read ((v1 + v5)).toNatClampNeg)) m_read v1 v3 v4 (v5 + (1 : Int32)))))
def f_X7_bring (m_now : (Nat → Int32)) (m_read : (Nat → Int32)) (p1 : Int32) (p3 : Int32) (p4 : Int32) : Option ((Nat → Int32)) :=
  fl_X7_bring_3 300 m_now m_read p1 p3 p4 (0 : Int32)
def fl_X7_agreement_2 : Nat → Int32 → (Nat → Int32) → Int32 → Int32 → (Nat → Int32) → (Nat → Int32) → Int32 → Option (Int32 × Int32 × Int32 × Int32 × (Nat → Int32) × (Nat → Int32))
  | 0, _, _, _, _, _, _, _ => none
  | n + 1, m_letters, m_tape, m_position, m_number, m_now, m_read, v1 =>
    (if (79 : Int32) ≤ v1 then
      (match f_X7_isAgreement m_letters m_tape (0 : Int32) m_number (upd m_read 1 (m_now 1)) with
      | none => none
      | some q1 =>
        (if q1.1 = (0 : Int32) then
          some (((-20 : Int32) - q1.2.1), (0 : Int32), q1.2.1, q1.2.2.1, m_now, q1.2.2.2)
        else
          (match f_X7_bring m_now q1.2.2.2 (0 : Int32) (0 : Int32) (79 : Int32) with
          | none => none
          | some q2 =>
            some ((q2 5), (0 : Int32), q1.2.1, q1.2.2.1, q2, q1.2.2.2))))
    else
      (if v1 < 0 ∨ 79 ≤ (v1).toNatClampNeg then none else
        fl_X7_agreement_2 n m_letters m_tape m_position m_number m_now (upd m_read (v1).toNatClampNeg (0 : Int32)) (v1 + (1 : Int32))))
def f_X7_agreement (m_letters : Int32) (m_tape : (Nat → Int32)) (m_position : Int32) (m_number : Int32) (m_now : (Nat → Int32)) (m_read : (Nat → Int32)) : Option (Int32 × Int32 × Int32 × Int32 × (Nat → Int32) × (Nat → Int32)) :=
  fl_X7_agreement_2 300 m_letters m_tape m_position m_number m_now m_read (0 : Int32)
def fl_X4_boundParties_4 : Nat → (Nat → Int32) → Int32 → Int32 → Int32 → Int32 → Option (Int32)
  | 0, _, _, _, _, _ => none
  | n + 1, r_t_parties, r_t_size, r_tied, v1, v2 =>
    (if (4 : Int32) ≤ v2 then
      some (v1)
    else
      (match f_X0_owedBy r_t_parties r_t_size v2 with
      | none => none
      | some q1 =>
        (if (q1 &&& r_tied) = (0 : Int32) then
          fl_X4_boundParties_4 n r_t_parties r_t_size r_tied v1 (v2 + (1 : Int32))
        else
          fl_X4_boundParties_4 n r_t_parties r_t_size r_tied (v1 ||| ((1 : Int32) <<< (v2 &&& (31 : Int32)))) (v2 + (1 : Int32)))))
def f_X4_boundParties (r_t_parties : (Nat → Int32)) (r_t_size : Int32) (r_tied : Int32) : Option (Int32) :=
  fl_X4_boundParties_4 300 r_t_parties r_t_size r_tied (0 : Int32) (0 : Int32)
def f_X6_count (r_t_barred : (Nat → Int32)) (r_t_parties : (Nat → Int32)) (r_t_size : Int32) (r_p_size : Int32) (r_tied : Int32) (r_wars : Int32) (r_wet : Int32) (r_day : Int32) (p1 : Int32) : Option (Int32) :=
  (if p1 = (0 : Int32) then
    some (r_t_size)
  else
  (if p1 = (1 : Int32) then
    some (r_day)
  else
  (if p1 = (2 : Int32) then
    some (r_wet)
  else
  (if p1 = (3 : Int32) then
    some (r_tied)
  else
  (if p1 = (4 : Int32) then
    (match f_X4_freeAmong r_t_barred r_tied with
    | none => none
    | some q1 =>
      some (q1))
  else
  (if p1 = (5 : Int32) then
    (match f_X4_boundParties r_t_parties r_t_size r_tied with
    | none => none
    | some q2 =>
      some (q2))
  else
  (if p1 = (6 : Int32) then
    some (r_wars)
  else
  (if p1 = (7 : Int32) then
    some (r_p_size)
  else
    some ((-1 : Int32))))))))))
def fl_X7_freeIn_4 : Nat → (Nat → Int32) → Int32 → Int32 → Option (Int32)
  | 0, _, _, _ => none
  | n + 1, m_now, v1, v2 =>
    (if (m_now 5) ≤ v2 then
      some (v1)
    else
      (match f_X7_isFree m_now v2 (m_now 2) with
      | none => none
      | some q1 =>
        (if q1 = (0 : Int32) then
          fl_X7_freeIn_4 n m_now (v1 ||| (0 : Int32)) (v2 + (1 : Int32))
        else
          fl_X7_freeIn_4 n m_now (v1 ||| ((1 : Int32) <<< (v2 &&& (31 : Int32)))) (v2 + (1 : Int32)))))
def f_X7_freeIn (m_now : (Nat → Int32)) : Option (Int32) :=
  fl_X7_freeIn_4 300 m_now (0 : Int32) (0 : Int32)
def fl_X7_boundOnes_4 : Nat → (Nat → Int32) → Int32 → Int32 → Option (Int32)
  | 0, _, _, _ => none
  | n + 1, m_now, v1, v2 =>
    (if (m_now 5) ≤ v2 then
      some (v1)
    else
      (if (f_X7_has (m_now 2) v2) = (0 : Int32) then
        fl_X7_boundOnes_4 n m_now (v1 ||| (0 : Int32)) (v2 + (1 : Int32))
      else
        (if ((30 : Int32) + v2) < 0 ∨ 79 ≤ (((30 : Int32) + v2)).toNatClampNeg then none else
          fl_X7_boundOnes_4 n m_now (v1 ||| ((1 : Int32) <<< ((m_now (((30 : Int32) + v2)).toNatClampNeg) &&& (31 : Int32)))) (v2 + (1 : Int32)))))
def f_X7_boundOnes (m_now : (Nat → Int32)) : Option (Int32) :=
  fl_X7_boundOnes_4 300 m_now (0 : Int32) (0 : Int32)
def f_X7_count (m_now : (Nat → Int32)) (p1 : Int32) : Option (Int32) :=
  (if p1 = (0 : Int32) then
    some ((m_now 5))
  else
  (if p1 = (1 : Int32) then
    some ((m_now 0))
  else
  (if p1 = (2 : Int32) then
    some ((m_now 3))
  else
  (if p1 = (3 : Int32) then
    some ((m_now 2))
  else
  (if p1 = (4 : Int32) then
    (match f_X7_freeIn m_now with
    | none => none
    | some q1 =>
      some (q1))
  else
  (if p1 = (5 : Int32) then
    (match f_X7_boundOnes m_now with
    | none => none
    | some q2 =>
      some (q2))
  else
  (if p1 = (6 : Int32) then
    some ((m_now 4))
  else
  (if p1 = (7 : Int32) then
    some ((m_now 38))
  else
    some ((-1 : Int32))))))))))
def f_X6_isForce (p0 : Int32) : Int32 :=
  (f_X6_isWithin p0 (0 : Int32) (99 : Int32))
def f_X2_makeRoom (r_p_numbers : (Nat → Int32)) (r_p_size : Int32) : Option (Int32 × (Nat → Int32) × Int32) :=
  (if r_p_size < (8 : Int32) then
    some ((((r_p_size + (1 : Int32)) - (1 : Int32)) * (5 : Int32)), r_p_numbers, (r_p_size + (1 : Int32)))
  else
    some ((35 : Int32), (va_cpy r_p_numbers r_p_numbers 5 0 35), (8 : Int32)))
def f_X4_remember (r_p_numbers : (Nat → Int32)) (r_p_size : Int32) (r_tied : Int32) (r_wars : Int32) (r_wet : Int32) (r_day : Int32) (r_drawn : Int32) : Option ((Nat → Int32) × Int32) :=
  (match f_X2_makeRoom r_p_numbers r_p_size with
  | none => none
  | some q1 =>
    (if q1.1 < (0 : Int32) then
      some (q1.2.1, q1.2.2)
    else
      (if (q1.1 + (5 : Int32)) ≤ (40 : Int32) then
        (if q1.1 < 0 ∨ 40 ≤ (q1.1).toNatClampNeg then none else
          (if (q1.1 + (1 : Int32)) < 0 ∨ 40 ≤ ((q1.1 + (1 : Int32))).toNatClampNeg then none else
            (if (q1.1 + (2 : Int32)) < 0 ∨ 40 ≤ ((q1.1 + (2 : Int32))).toNatClampNeg then none else
              (if (q1.1 + (3 : Int32)) < 0 ∨ 40 ≤ ((q1.1 + (3 : Int32))).toNatClampNeg then none else
                (if (q1.1 + (4 : Int32)) < 0 ∨ 40 ≤ ((q1.1 + (4 : Int32))).toNatClampNeg then none else
                  some ((upd (upd (upd (upd (upd q1.2.1 (q1.1).toNatClampNeg r_tied) ((q1.1 + (1 : Int32))).toNatClampNeg r_wars) ((q1.1 + (2 : Int32))).toNatClampNeg r_wet) ((q1.1 + (3 : Int32))).toNatClampNeg r_day) ((q1.1 + (4 : Int32))).toNatClampNeg r_drawn), q1.2.2))))))
      else
        some (q1.2.1, q1.2.2))))
def fl_X4_weigh_2 : Nat → (Nat → Int32) → (Nat → Int32) → (Nat → Int32) → Int32 → Int32 → Int32 → Option ((Nat → Int32))
  | 0, _, _, _, _, _, _ => none
  | n + 1, r_t_kinds, r_t_holds, r_firms, r_wet, r_day, v1 =>
    (if (8 : Int32) ≤ v1 then
      some (r_firms)
    else
      (match f_X4_firmOf r_t_kinds r_t_holds r_wet r_day v1 with
      | none => none
      | some q1 =>
        (if v1 < 0 ∨ 8 ≤ (v1).toNatClampNeg then none else
          fl_X4_weigh_2 n r_t_kinds r_t_holds (upd r_firms (v1).toNatClampNeg q1) r_wet r_day (v1 + (1 : Int32)))))
def f_X4_weigh (r_t_kinds : (Nat → Int32)) (r_t_holds : (Nat → Int32)) (r_firms : (Nat → Int32)) (r_wet : Int32) (r_day : Int32) : Option ((Nat → Int32)) :=
  fl_X4_weigh_2 300 r_t_kinds r_t_holds r_firms r_wet r_day (0 : Int32)
def fl_X4_fallsAmong_12 : Nat → (Nat → Int32) → (Nat → Int32) → Int32 → Int32 → Int32 → Int32 → Option (Int32)
  | 0, _, _, _, _, _, _ => none
  | n + 1, r_t_barred, r_firms, v2, v3, v4, v5 =>
    (if (8 : Int32) ≤ v5 then
      some (v4)
    else
      (if (f_X6_has v3 v5) = (0 : Int32) then
        fl_X4_fallsAmong_12 n r_t_barred r_firms v2 v3 v4 (v5 + (1 : Int32))
      else
        (if v5 < 0 ∨ 8 ≤ (v5).toNatClampNeg then none else
          (if v2 < (r_firms (v5).toNatClampNeg) then
            fl_X4_fallsAmong_12 n r_t_barred r_firms v2 v3 v4 (v5 + (1 : Int32))
          else
            fl_X4_fallsAmong_12 n r_t_barred r_firms v2 v3 (v4 ||| ((1 : Int32) <<< (v5 &&& (31 : Int32)))) (v5 + (1 : Int32))))))
def f_X4_fallsAmong (r_t_barred : (Nat → Int32)) (r_firms : (Nat → Int32)) (p1 : Int32) (p2 : Int32) : Option (Int32) :=
  (match f_X4_freeAmong r_t_barred p1 with
  | none => none
  | some q1 =>
    fl_X4_fallsAmong_12 300 r_t_barred r_firms p2 q1 (0 : Int32) (0 : Int32))
def f_X4_undoBy (r_t_kinds : (Nat → Int32)) (r_t_holds : (Nat → Int32)) (r_t_barred : (Nat → Int32)) (r_firms : (Nat → Int32)) (r_tied : Int32) (r_wet : Int32) (r_day : Int32) (p1 : Int32) : Option (Int32 × (Nat → Int32) × Int32) :=
  (match f_X4_weigh r_t_kinds r_t_holds r_firms r_wet r_day with
  | none => none
  | some q1 =>
    (match f_X4_fallsAmong r_t_barred q1 r_tied p1 with
    | none => none
    | some q2 =>
      some (q2, q1, (r_tied &&& (q2 ^^^ (-1 : Int32))))))
def f_X6_pull (r_t_kinds : (Nat → Int32)) (r_t_holds : (Nat → Int32)) (r_t_barred : (Nat → Int32)) (r_p_numbers : (Nat → Int32)) (r_p_size : Int32) (r_firms : (Nat → Int32)) (r_tied : Int32) (r_wars : Int32) (r_wet : Int32) (r_day : Int32) (r_drawn : Int32) (p1 : Int32) : Option (Int32 × (Nat → Int32) × Int32 × (Nat → Int32) × Int32) :=
  (if (f_X6_isForce p1) = (0 : Int32) then
    some ((-1 : Int32), r_p_numbers, r_p_size, r_firms, r_tied)
  else
    (match f_X4_remember r_p_numbers r_p_size r_tied r_wars r_wet r_day r_drawn with
    | none => none
    | some q1 =>
      (match f_X4_undoBy r_t_kinds r_t_holds r_t_barred r_firms r_tied r_wet r_day p1 with
      | none => none
      | some q2 =>
        some (q2.1, q1.1, q1.2, q2.2.1, q2.2.2))))
def fl_X7_bring_1_3 : Nat → (Nat → Int32) → Int32 → Int32 → Int32 → Int32 → Option ((Nat → Int32))
  | 0, _, _, _, _, _ => none
  | n + 1, m_now, v1, v3, v4, v5 =>
    (if v4 ≤ v5 then
      some (m_now)
    else
      (if (v1 + v5) < 0 ∨ 79 ≤ ((v1 + v5)).toNatClampNeg then none else
        (if (v3 + v5) < 0 ∨ 79 ≤ ((v3 + v5)).toNatClampNeg then none else
          fl_X7_bring_1_3 n (upd m_now ((v3 + v5)).toNatClampNeg (m_now ((v1 + v5)).toNatClampNeg)) v1 v3 v4 (v5 + (1 : Int32)))))
def f_X7_bring_1 (m_now : (Nat → Int32)) (p1 : Int32) (p3 : Int32) (p4 : Int32) : Option ((Nat → Int32)) :=
  fl_X7_bring_1_3 300 m_now p1 p3 p4 (0 : Int32)
def f_X7_note (m_now : (Nat → Int32)) : Option ((Nat → Int32)) :=
  (if (m_now 38) = (8 : Int32) then
    (match f_X7_bring_1 m_now (44 : Int32) (39 : Int32) (35 : Int32) with
    | none => none
    | some q1 =>
      (match f_X7_bring_1 (upd q1 38 ((q1 38) - (1 : Int32))) (0 : Int32) ((39 : Int32) + ((5 : Int32) * ((upd q1 38 ((q1 38) - (1 : Int32))) 38))) (5 : Int32) with
      | none => none
      | some q2 =>
        some ((upd q2 38 ((q2 38) + (1 : Int32))))))
  else
    (match f_X7_bring_1 m_now (0 : Int32) ((39 : Int32) + ((5 : Int32) * (m_now 38))) (5 : Int32) with
    | none => none
    | some q3 =>
      some ((upd q3 38 ((q3 38) + (1 : Int32))))))
def fl_X7_fallsIn_4 : Nat → (Nat → Int32) → Int32 → Int32 → Int32 → Option (Int32)
  | 0, _, _, _, _ => none
  | n + 1, m_now, v1, v2, v3 =>
    (if (m_now 5) ≤ v3 then
      some (v2)
    else
      (match f_X7_isFree m_now v3 (m_now 2) with
      | none => none
      | some q1 =>
        (if q1 = (0 : Int32) then
          fl_X7_fallsIn_4 n m_now v1 (v2 ||| (0 : Int32)) (v3 + (1 : Int32))
        else
          (match f_X7_firm m_now v3 with
          | none => none
          | some q2 =>
            (if v1 < q2 then
              fl_X7_fallsIn_4 n m_now v1 (v2 ||| (0 : Int32)) (v3 + (1 : Int32))
            else
              fl_X7_fallsIn_4 n m_now v1 (v2 ||| ((1 : Int32) <<< (v3 &&& (31 : Int32)))) (v3 + (1 : Int32)))))))
def f_X7_fallsIn (m_now : (Nat → Int32)) (p1 : Int32) : Option (Int32) :=
  fl_X7_fallsIn_4 300 m_now p1 (0 : Int32) (0 : Int32)
def f_X7_pullIn (m_now : (Nat → Int32)) (p1 : Int32) : Option (Int32 × (Nat → Int32)) :=
  (match f_X7_fallsIn m_now p1 with
  | none => none
  | some q1 =>
    some (q1, (upd m_now 2 ((m_now 2) &&& (q1 ^^^ (-1 : Int32))))))
def f_X7_pull (m_now : (Nat → Int32)) (p1 : Int32) : Option (Int32 × (Nat → Int32)) :=
  (if (f_X7_in p1 (0 : Int32) (99 : Int32)) = (0 : Int32) then
    some ((-1 : Int32), m_now)
  else
    (match f_X7_note m_now with
    | none => none
    | some q1 =>
      (match f_X7_pullIn q1 p1 with
      | none => none
      | some q2 =>
        some (q2.1, q2.2))))
def f_X6_cut (r_t_size : Int32) (r_p_numbers : (Nat → Int32)) (r_p_size : Int32) (r_tied : Int32) (r_wars : Int32) (r_wet : Int32) (r_day : Int32) (r_drawn : Int32) (p1 : Int32) : Option (Int32 × (Nat → Int32) × Int32 × Int32 × Int32) :=
  (if (f_X6_isClause r_t_size p1) = (0 : Int32) then
    some ((-1 : Int32), r_p_numbers, r_p_size, r_tied, r_wars)
  else
    (if (f_X6_has r_tied p1) = (0 : Int32) then
      some ((-2 : Int32), r_p_numbers, r_p_size, r_tied, r_wars)
    else
      (match f_X4_remember r_p_numbers r_p_size r_tied r_wars r_wet r_day r_drawn with
      | none => none
      | some q1 =>
        some ((r_tied &&& (((1 : Int32) <<< (p1 &&& (31 : Int32))) ^^^ (-1 : Int32))), q1.1, q1.2, (r_tied &&& (((1 : Int32) <<< (p1 &&& (31 : Int32))) ^^^ (-1 : Int32))), (r_wars + (1 : Int32))))))
def f_X7_cut (m_now : (Nat → Int32)) (p1 : Int32) : Option (Int32 × (Nat → Int32)) :=
  (if (f_X7_isClause m_now p1) = (0 : Int32) then
    some ((-1 : Int32), m_now)
  else
    (if (f_X7_has (m_now 2) p1) = (0 : Int32) then
      some ((-2 : Int32), m_now)
    else
      (match f_X7_note m_now with
      | none => none
      | some q1 =>
        some (((upd (upd q1 2 ((q1 2) &&& (((1 : Int32) <<< (p1 &&& (31 : Int32))) ^^^ (-1 : Int32)))) 4 (((upd q1 2 ((q1 2) &&& (((1 : Int32) <<< (p1 &&& (31 : Int32))) ^^^ (-1 : Int32)))) 4) + (1 : Int32))) 2), (upd (upd q1 2 ((q1 2) &&& (((1 : Int32) <<< (p1 &&& (31 : Int32))) ^^^ (-1 : Int32)))) 4 (((upd q1 2 ((q1 2) &&& (((1 : Int32) <<< (p1 &&& (31 : Int32))) ^^^ (-1 : Int32)))) 4) + (1 : Int32)))))))
def f_X6_tie (r_t_size : Int32) (r_p_numbers : (Nat → Int32)) (r_p_size : Int32) (r_tied : Int32) (r_wars : Int32) (r_wet : Int32) (r_day : Int32) (r_drawn : Int32) (p1 : Int32) : Option (Int32 × (Nat → Int32) × Int32 × Int32) :=
  (if (f_X6_isClause r_t_size p1) = (0 : Int32) then
    some ((-1 : Int32), r_p_numbers, r_p_size, r_tied)
  else
    (if (f_X6_has r_tied p1) = (0 : Int32) then
      (match f_X4_remember r_p_numbers r_p_size r_tied r_wars r_wet r_day r_drawn with
      | none => none
      | some q1 =>
        some ((r_tied ||| ((1 : Int32) <<< (p1 &&& (31 : Int32)))), q1.1, q1.2, (r_tied ||| ((1 : Int32) <<< (p1 &&& (31 : Int32))))))
    else
      some ((-2 : Int32), r_p_numbers, r_p_size, r_tied)))
def f_X7_tie (m_now : (Nat → Int32)) (p1 : Int32) : Option (Int32 × (Nat → Int32)) :=
  (if (f_X7_isClause m_now p1) = (0 : Int32) then
    some ((-1 : Int32), m_now)
  else
    (if (f_X7_has (m_now 2) p1) = (0 : Int32) then
      (match f_X7_note m_now with
      | none => none
      | some q1 =>
        some (((upd q1 2 ((q1 2) ||| ((1 : Int32) <<< (p1 &&& (31 : Int32))))) 2), (upd q1 2 ((q1 2) ||| ((1 : Int32) <<< (p1 &&& (31 : Int32)))))))
    else
      some ((-2 : Int32), m_now)))
def fl_X4_firmTogether_4 : Nat → (Nat → Int32) → (Nat → Int32) → Int32 → Int32 → Int32 → Int32 → Int32 → Option (Int32)
  | 0, _, _, _, _, _, _, _ => none
  | n + 1, r_t_kinds, r_t_holds, r_tied, r_wet, r_day, v1, v2 =>
    (if (8 : Int32) ≤ v2 then
      some (v1)
    else
      (if (f_X6_has r_tied v2) = (0 : Int32) then
        fl_X4_firmTogether_4 n r_t_kinds r_t_holds r_tied r_wet r_day v1 (v2 + (1 : Int32))
      else
        (match f_X4_firmOf r_t_kinds r_t_holds r_wet r_day v2 with
        | none => none
        | some q1 =>
          fl_X4_firmTogether_4 n r_t_kinds r_t_holds r_tied r_wet r_day (v1 + q1) (v2 + (1 : Int32)))))
def f_X4_firmTogether (r_t_kinds : (Nat → Int32)) (r_t_holds : (Nat → Int32)) (r_tied : Int32) (r_wet : Int32) (r_day : Int32) : Option (Int32) :=
  fl_X4_firmTogether_4 300 r_t_kinds r_t_holds r_tied r_wet r_day (0 : Int32) (0 : Int32)
def f_X6_wet (r_t_kinds : (Nat → Int32)) (r_t_holds : (Nat → Int32)) (r_p_numbers : (Nat → Int32)) (r_p_size : Int32) (r_tied : Int32) (r_wars : Int32) (r_wet : Int32) (r_day : Int32) (r_drawn : Int32) (p1 : Int32) : Option (Int32 × (Nat → Int32) × Int32 × Int32) :=
  (if (f_X6_isWithin p1 (0 : Int32) (1 : Int32)) = (0 : Int32) then
    some ((-1 : Int32), r_p_numbers, r_p_size, r_wet)
  else
    (if r_wet = p1 then
      some ((-2 : Int32), r_p_numbers, r_p_size, r_wet)
    else
      (match f_X4_remember r_p_numbers r_p_size r_tied r_wars r_wet r_day r_drawn with
      | none => none
      | some q1 =>
        (match f_X4_firmTogether r_t_kinds r_t_holds r_tied p1 r_day with
        | none => none
        | some q2 =>
          some (q2, q1.1, q1.2, p1)))))
def fl_X7_wet_39 : Nat → (Nat → Int32) → Int32 → Int32 → Option (Int32 × (Nat → Int32))
  | 0, _, _, _ => none
  | n + 1, m_now, v2, v3 =>
    (if (m_now 5) ≤ v3 then
      some (v2, m_now)
    else
      (if (f_X7_has (m_now 2) v3) = (0 : Int32) then
        fl_X7_wet_39 n m_now (v2 + (0 : Int32)) (v3 + (1 : Int32))
      else
        (match f_X7_firm m_now v3 with
        | none => none
        | some q2 =>
          fl_X7_wet_39 n m_now (v2 + q2) (v3 + (1 : Int32)))))
def f_X7_wet (m_now : (Nat → Int32)) (p1 : Int32) : Option (Int32 × (Nat → Int32)) :=
  (if (f_X7_in p1 (0 : Int32) (1 : Int32)) = (0 : Int32) then
    some ((-1 : Int32), m_now)
  else
    (if (m_now 3) = p1 then
      some ((-2 : Int32), m_now)
    else
      (match f_X7_note m_now with
      | none => none
      | some q1 =>
        fl_X7_wet_39 300 (upd q1 3 p1) (0 : Int32) (0 : Int32))))
def f_X6_days (r_p_numbers : (Nat → Int32)) (r_p_size : Int32) (r_tied : Int32) (r_wars : Int32) (r_wet : Int32) (r_day : Int32) (r_drawn : Int32) (p1 : Int32) : Option (Int32 × (Nat → Int32) × Int32 × Int32) :=
  (if (f_X6_isWithin p1 (1 : Int32) (99 : Int32)) = (0 : Int32) then
    some ((-1 : Int32), r_p_numbers, r_p_size, r_day)
  else
    (if (r_day + p1) ≤ (9999 : Int32) then
      (match f_X4_remember r_p_numbers r_p_size r_tied r_wars r_wet r_day r_drawn with
      | none => none
      | some q1 =>
        some ((r_day + p1), q1.1, q1.2, (r_day + p1)))
    else
      some ((-3 : Int32), r_p_numbers, r_p_size, r_day)))
def f_X7_days (m_now : (Nat → Int32)) (p1 : Int32) : Option (Int32 × (Nat → Int32)) :=
  (if (f_X7_in p1 (1 : Int32) (99 : Int32)) = (0 : Int32) then
    some ((-1 : Int32), m_now)
  else
    (if ((m_now 0) + p1) ≤ (9999 : Int32) then
      (match f_X7_note m_now with
      | none => none
      | some q1 =>
        some (((upd q1 0 ((q1 0) + p1)) 0), (upd q1 0 ((q1 0) + p1))))
    else
      some ((-3 : Int32), m_now)))
def f_X4_driftOneDay (r_t_kinds : (Nat → Int32)) (r_t_holds : (Nat → Int32)) (r_t_barred : (Nat → Int32)) (r_firms : (Nat → Int32)) (r_tied : Int32) (r_wet : Int32) (r_day : Int32) (r_drawn : Int32) : Option ((Nat → Int32) × Int32 × Int32 × Int32 × Int32) :=
  (if (((((r_drawn * (1103515245 : Int32)) + (12345 : Int32)) &&& (2147483647 : Int32)) / (65536 : Int32)) - ((((r_drawn * (1103515245 : Int32)) + (12345 : Int32)) &&& (2147483647 : Int32)) / (65536 : Int32)) / (3 : Int32) * (3 : Int32)) = (0 : Int32) then
    (match f_X4_undoBy r_t_kinds r_t_holds r_t_barred r_firms r_tied (1 : Int32) r_day (((((r_drawn * (1103515245 : Int32)) + (12345 : Int32)) &&& (2147483647 : Int32)) / (128 : Int32)) - ((((r_drawn * (1103515245 : Int32)) + (12345 : Int32)) &&& (2147483647 : Int32)) / (128 : Int32)) / (30 : Int32) * (30 : Int32)) with
    | none => none
    | some q1 =>
      some (q1.2.1, q1.2.2, (1 : Int32), (r_day + (1 : Int32)), (((r_drawn * (1103515245 : Int32)) + (12345 : Int32)) &&& (2147483647 : Int32))))
  else
    (match f_X4_undoBy r_t_kinds r_t_holds r_t_barred r_firms r_tied (0 : Int32) r_day (((((r_drawn * (1103515245 : Int32)) + (12345 : Int32)) &&& (2147483647 : Int32)) / (128 : Int32)) - ((((r_drawn * (1103515245 : Int32)) + (12345 : Int32)) &&& (2147483647 : Int32)) / (128 : Int32)) / (30 : Int32) * (30 : Int32)) with
    | none => none
    | some q2 =>
      some (q2.2.1, q2.2.2, (0 : Int32), (r_day + (1 : Int32)), (((r_drawn * (1103515245 : Int32)) + (12345 : Int32)) &&& (2147483647 : Int32)))))
def fl_X6_drift_32 : Nat → (Nat → Int32) → (Nat → Int32) → (Nat → Int32) → (Nat → Int32) → Int32 → (Nat → Int32) → Int32 → Int32 → Int32 → Int32 → Int32 → Int32 → Int32 → Option (Int32 × (Nat → Int32) × Int32 × (Nat → Int32) × Int32 × Int32 × Int32 × Int32)
  | 0, _, _, _, _, _, _, _, _, _, _, _, _, _ => none
  | n + 1, r_t_kinds, r_t_holds, r_t_barred, r_p_numbers, r_p_size, r_firms, r_tied, r_wars, r_wet, r_day, r_drawn, v1, v2 =>
    (if v1 ≤ v2 then
      some (r_tied, r_p_numbers, r_p_size, r_firms, r_tied, r_wet, r_day, r_drawn)
    else
      (match f_X4_remember r_p_numbers r_p_size r_tied r_wars r_wet r_day r_drawn with
      | none => none
      | some q1 =>
        (match f_X4_driftOneDay r_t_kinds r_t_holds r_t_barred r_firms r_tied r_wet r_day r_drawn with
        | none => none
        | some q2 =>
          fl_X6_drift_32 n r_t_kinds r_t_holds r_t_barred q1.1 q1.2 q2.1 q2.2.1 r_wars q2.2.2.1 q2.2.2.2.1 q2.2.2.2.2 v1 (v2 + (1 : Int32)))))
def f_X6_drift (r_t_kinds : (Nat → Int32)) (r_t_holds : (Nat → Int32)) (r_t_barred : (Nat → Int32)) (r_p_numbers : (Nat → Int32)) (r_p_size : Int32) (r_firms : (Nat → Int32)) (r_tied : Int32) (r_wars : Int32) (r_wet : Int32) (r_day : Int32) (r_drawn : Int32) (p1 : Int32) : Option (Int32 × (Nat → Int32) × Int32 × (Nat → Int32) × Int32 × Int32 × Int32 × Int32) :=
  (if (f_X6_isWithin p1 (1 : Int32) (40 : Int32)) = (0 : Int32) then
    some ((-1 : Int32), r_p_numbers, r_p_size, r_firms, r_tied, r_wet, r_day, r_drawn)
  else
    (if (r_day + p1) ≤ (9999 : Int32) then
      fl_X6_drift_32 300 r_t_kinds r_t_holds r_t_barred r_p_numbers r_p_size r_firms r_tied r_wars r_wet r_day r_drawn p1 (0 : Int32)
    else
      some ((-3 : Int32), r_p_numbers, r_p_size, r_firms, r_tied, r_wet, r_day, r_drawn)))
def fl_X7_drift_31 : Nat → (Nat → Int32) → Int32 → Int32 → Option (Int32 × (Nat → Int32))
  | 0, _, _, _ => none
  | n + 1, m_now, v1, v2 =>
    (if v1 ≤ v2 then
      some ((m_now 2), m_now)
    else
      (match f_X7_note m_now with
      | none => none
      | some q1 =>
        (if ((((upd q1 1 ((((((q1 1)).toInt64 * (1103515245 : Int64)) + (12345 : Int64)) - ((((q1 1)).toInt64 * (1103515245 : Int64)) + (12345 : Int64)) / (2147483648 : Int64) * (2147483648 : Int64))).toInt32) 1) / (65536 : Int32)) - (((upd q1 1 ((((((q1 1)).toInt64 * (1103515245 : Int64)) + (12345 : Int64)) - ((((q1 1)).toInt64 * (1103515245 : Int64)) + (12345 : Int64)) / (2147483648 : Int64) * (2147483648 : Int64))).toInt32) 1) / (65536 : Int32)) / (3 : Int32) * (3 : Int32)) = (0 : Int32) then
          (match f_X7_pullIn (upd (upd q1 1 ((((((q1 1)).toInt64 * (1103515245 : Int64)) + (12345 : Int64)) - ((((q1 1)).toInt64 * (1103515245 : Int64)) + (12345 : Int64)) / (2147483648 : Int64) * (2147483648 : Int64))).toInt32) 3 (1 : Int32)) ((((upd (upd q1 1 ((((((q1 1)).toInt64 * (1103515245 : Int64)) + (12345 : Int64)) - ((((q1 1)).toInt64 * (1103515245 : Int64)) + (12345 : Int64)) / (2147483648 : Int64) * (2147483648 : Int64))).toInt32) 3 (1 : Int32)) 1) / (128 : Int32)) - (((upd (upd q1 1 ((((((q1 1)).toInt64 * (1103515245 : Int64)) + (12345 : Int64)) - ((((q1 1)).toInt64 * (1103515245 : Int64)) + (12345 : Int64)) / (2147483648 : Int64) * (2147483648 : Int64))).toInt32) 3 (1 : Int32)) 1) / (128 : Int32)) / (30 : Int32) * (30 : Int32)) with
          | none => none
          | some q2 =>
            fl_X7_drift_31 n (upd q2.2 0 ((q2.2 0) + (1 : Int32))) v1 (v2 + (1 : Int32)))
        else
          (match f_X7_pullIn (upd (upd q1 1 ((((((q1 1)).toInt64 * (1103515245 : Int64)) + (12345 : Int64)) - ((((q1 1)).toInt64 * (1103515245 : Int64)) + (12345 : Int64)) / (2147483648 : Int64) * (2147483648 : Int64))).toInt32) 3 (0 : Int32)) ((((upd (upd q1 1 ((((((q1 1)).toInt64 * (1103515245 : Int64)) + (12345 : Int64)) - ((((q1 1)).toInt64 * (1103515245 : Int64)) + (12345 : Int64)) / (2147483648 : Int64) * (2147483648 : Int64))).toInt32) 3 (0 : Int32)) 1) / (128 : Int32)) - (((upd (upd q1 1 ((((((q1 1)).toInt64 * (1103515245 : Int64)) + (12345 : Int64)) - ((((q1 1)).toInt64 * (1103515245 : Int64)) + (12345 : Int64)) / (2147483648 : Int64) * (2147483648 : Int64))).toInt32) 3 (0 : Int32)) 1) / (128 : Int32)) / (30 : Int32) * (30 : Int32)) with
          | none => none
          | some q3 =>
            fl_X7_drift_31 n (upd q3.2 0 ((q3.2 0) + (1 : Int32))) v1 (v2 + (1 : Int32))))))
def f_X7_drift (m_now : (Nat → Int32)) (p1 : Int32) : Option (Int32 × (Nat → Int32)) :=
  (if (f_X7_in p1 (1 : Int32) (40 : Int32)) = (0 : Int32) then
    some ((-1 : Int32), m_now)
  else
    (if ((m_now 0) + p1) ≤ (9999 : Int32) then
      fl_X7_drift_31 300 m_now p1 (0 : Int32)
    else
      some ((-3 : Int32), m_now)))
def f_X4_takeBack (r_p_numbers : (Nat → Int32)) (r_p_size : Int32) (r_tied : Int32) (r_wars : Int32) (r_wet : Int32) (r_day : Int32) (r_drawn : Int32) : Option (Int32 × Int32 × Int32 × Int32 × Int32 × Int32 × Int32) :=
  (if r_p_size ≤ (0 : Int32) then
    some ((0 : Int32), r_p_size, r_tied, r_wars, r_wet, r_day, r_drawn)
  else
    (if r_p_size ≤ (8 : Int32) then
      (if ((r_p_size - (1 : Int32)) * (5 : Int32)) < 0 ∨ 40 ≤ (((r_p_size - (1 : Int32)) * (5 : Int32))).toNatClampNeg then none else
        (if (((r_p_size - (1 : Int32)) * (5 : Int32)) + (1 : Int32)) < 0 ∨ 40 ≤ ((((r_p_size - (1 : Int32)) * (5 : Int32)) + (1 : Int32))).toNatClampNeg then none else
          (if (((r_p_size - (1 : Int32)) * (5 : Int32)) + (2 : Int32)) < 0 ∨ 40 ≤ ((((r_p_size - (1 : Int32)) * (5 : Int32)) + (2 : Int32))).toNatClampNeg then none else
            (if (((r_p_size - (1 : Int32)) * (5 : Int32)) + (3 : Int32)) < 0 ∨ 40 ≤ ((((r_p_size - (1 : Int32)) * (5 : Int32)) + (3 : Int32))).toNatClampNeg then none else
              (if (((r_p_size - (1 : Int32)) * (5 : Int32)) + (4 : Int32)) < 0 ∨ 40 ≤ ((((r_p_size - (1 : Int32)) * (5 : Int32)) + (4 : Int32))).toNatClampNeg then none else
                some ((1 : Int32), (r_p_size - (1 : Int32)), (r_p_numbers (((r_p_size - (1 : Int32)) * (5 : Int32))).toNatClampNeg), (r_p_numbers ((((r_p_size - (1 : Int32)) * (5 : Int32)) + (1 : Int32))).toNatClampNeg), (r_p_numbers ((((r_p_size - (1 : Int32)) * (5 : Int32)) + (2 : Int32))).toNatClampNeg), (r_p_numbers ((((r_p_size - (1 : Int32)) * (5 : Int32)) + (3 : Int32))).toNatClampNeg), (r_p_numbers ((((r_p_size - (1 : Int32)) * (5 : Int32)) + (4 : Int32))).toNatClampNeg)))))))
    else
      some ((0 : Int32), r_p_size, r_tied, r_wars, r_wet, r_day, r_drawn)))
def f_X6_undo (r_p_numbers : (Nat → Int32)) (r_p_size : Int32) (r_tied : Int32) (r_wars : Int32) (r_wet : Int32) (r_day : Int32) (r_drawn : Int32) : Option (Int32 × Int32 × Int32 × Int32 × Int32 × Int32 × Int32) :=
  (match f_X4_takeBack r_p_numbers r_p_size r_tied r_wars r_wet r_day r_drawn with
  | none => none
  | some q1 =>
    (if q1.1 = (0 : Int32) then
      some ((-4 : Int32), q1.2.1, q1.2.2.1, q1.2.2.2.1, q1.2.2.2.2.1, q1.2.2.2.2.2.1, q1.2.2.2.2.2.2)
    else
      some (q1.2.1, q1.2.1, q1.2.2.1, q1.2.2.2.1, q1.2.2.2.2.1, q1.2.2.2.2.2.1, q1.2.2.2.2.2.2)))
def f_X7_undo (m_now : (Nat → Int32)) : Option (Int32 × (Nat → Int32)) :=
  (if (m_now 38) = (0 : Int32) then
    some ((-4 : Int32), m_now)
  else
    (match f_X7_bring_1 (upd m_now 38 ((m_now 38) - (1 : Int32))) ((39 : Int32) + ((5 : Int32) * ((upd m_now 38 ((m_now 38) - (1 : Int32))) 38))) (0 : Int32) (5 : Int32) with
    | none => none
    | some q1 =>
      some ((q1 38), q1)))
def f_X6_seed (r_drawn : Int32) (p1 : Int32) : Option (Int32 × Int32) :=
  (if (0 : Int32) ≤ p1 then
    some (r_drawn, p1)
  else
    some ((-1 : Int32), r_drawn))
def f_X7_seed (m_now : (Nat → Int32)) (p1 : Int32) : Option (Int32 × (Nat → Int32)) :=
  (if (0 : Int32) ≤ p1 then
    some ((m_now 1), (upd m_now 1 p1))
  else
    some ((-1 : Int32), m_now))
def f_X6_falls (r_t_kinds : (Nat → Int32)) (r_t_holds : (Nat → Int32)) (r_t_barred : (Nat → Int32)) (r_firms : (Nat → Int32)) (r_tied : Int32) (r_wet : Int32) (r_day : Int32) (p1 : Int32) : Option (Int32 × (Nat → Int32)) :=
  (if (f_X6_isForce p1) = (0 : Int32) then
    some ((-1 : Int32), r_firms)
  else
    (match f_X4_weigh r_t_kinds r_t_holds r_firms r_wet r_day with
    | none => none
    | some q1 =>
      (match f_X4_fallsAmong r_t_barred q1 r_tied p1 with
      | none => none
      | some q2 =>
        some (q2, q1))))
def f_X7_falls (m_now : (Nat → Int32)) (p1 : Int32) : Option (Int32) :=
  (if (f_X7_in p1 (0 : Int32) (99 : Int32)) = (0 : Int32) then
    some ((-1 : Int32))
  else
    (match f_X7_fallsIn m_now p1 with
    | none => none
    | some q1 =>
      some (q1)))
def fl_X4_neededFor_10 : Nat → (Nat → Int32) → Int32 → Int32 → Int32 → Option (Int32)
  | 0, _, _, _, _ => none
  | n + 1, r_t_barred, r_tied, v2, v3 =>
    (if v3 < (0 : Int32) then
      some (v2)
    else
      (if (f_X6_has v2 v3) = (0 : Int32) then
        fl_X4_neededFor_10 n r_t_barred r_tied v2 (v3 + (-1 : Int32))
      else
        (if v3 < 0 ∨ 8 ≤ (v3).toNatClampNeg then none else
          fl_X4_neededFor_10 n r_t_barred r_tied (v2 ||| ((r_t_barred (v3).toNatClampNeg) &&& r_tied)) (v3 + (-1 : Int32)))))
def f_X4_neededFor (r_t_barred : (Nat → Int32)) (r_tied : Int32) (p1 : Int32) : Option (Int32) :=
  fl_X4_neededFor_10 300 r_t_barred r_tied (p1 &&& r_tied) (7 : Int32)
def fl_X4_firmestUpTo_13 : Nat → (Nat → Int32) → (Nat → Int32) → (Nat → Int32) → Int32 → Int32 → Int32 → Int32 → Int32 → Int32 → Option (Int32)
  | 0, _, _, _, _, _, _, _, _, _ => none
  | n + 1, r_t_kinds, r_t_holds, r_t_barred, r_tied, r_wet, r_day, v2, v3, v4 =>
    (if (8 : Int32) ≤ v4 then
      some (v3)
    else
      (if (f_X6_has v2 v4) = (0 : Int32) then
        fl_X4_firmestUpTo_13 n r_t_kinds r_t_holds r_t_barred r_tied r_wet r_day v2 v3 (v4 + (1 : Int32))
      else
        (match f_X4_firmOf r_t_kinds r_t_holds r_wet r_day v4 with
        | none => none
        | some q2 =>
          fl_X4_firmestUpTo_13 n r_t_kinds r_t_holds r_t_barred r_tied r_wet r_day v2 (if v3 < q2 then q2 else v3) (v4 + (1 : Int32)))))
def f_X4_firmestUpTo (r_t_kinds : (Nat → Int32)) (r_t_holds : (Nat → Int32)) (r_t_barred : (Nat → Int32)) (r_tied : Int32) (r_wet : Int32) (r_day : Int32) (p1 : Int32) : Option (Int32) :=
  (match f_X4_neededFor r_t_barred r_tied ((1 : Int32) <<< (p1 &&& (31 : Int32))) with
  | none => none
  | some q1 =>
    fl_X4_firmestUpTo_13 300 r_t_kinds r_t_holds r_t_barred r_tied r_wet r_day q1 (0 : Int32) (0 : Int32))
def fl_X1_deepestAmong_4 : Nat → (Nat → Int32) → Int32 → Int32 → Int32 → Option (Int32)
  | 0, _, _, _, _ => none
  | n + 1, f_depths, v1, v2, v3 =>
    (if (8 : Int32) ≤ v3 then
      some (v2)
    else
      (if (f_X6_has v1 v3) = (0 : Int32) then
        fl_X1_deepestAmong_4 n f_depths v1 v2 (v3 + (1 : Int32))
      else
        (if v3 < 0 ∨ 8 ≤ (v3).toNatClampNeg then none else
          fl_X1_deepestAmong_4 n f_depths v1 (if v2 < (f_depths (v3).toNatClampNeg) then (f_depths (v3).toNatClampNeg) else v2) (v3 + (1 : Int32)))))
def f_X1_deepestAmong (f_depths : (Nat → Int32)) (p1 : Int32) : Option (Int32) :=
  fl_X1_deepestAmong_4 300 f_depths p1 (0 : Int32) (0 : Int32)
def fl_X1_fillDepths_2 : Nat → (Nat → Int32) → Int32 → (Nat → Int32) → Int32 → Option ((Nat → Int32))
  | 0, _, _, _, _ => none
  | n + 1, r_t_barred, r_tied, f_depths, v2 =>
    (if (8 : Int32) ≤ v2 then
      some (f_depths)
    else
      (if (f_X6_has r_tied v2) = (0 : Int32) then
        (if v2 < 0 ∨ 8 ≤ (v2).toNatClampNeg then none else
          fl_X1_fillDepths_2 n r_t_barred r_tied (upd f_depths (v2).toNatClampNeg (0 : Int32)) (v2 + (1 : Int32)))
      else
        (if v2 < 0 ∨ 8 ≤ (v2).toNatClampNeg then none else
          (match f_X1_deepestAmong f_depths ((r_t_barred (v2).toNatClampNeg) &&& r_tied) with
          | none => none
          | some q1 =>
            (if v2 < 0 ∨ 8 ≤ (v2).toNatClampNeg then none else
              fl_X1_fillDepths_2 n r_t_barred r_tied (upd f_depths (v2).toNatClampNeg ((1 : Int32) + q1)) (v2 + (1 : Int32)))))))
def f_X1_fillDepths (r_t_barred : (Nat → Int32)) (r_tied : Int32) (f_depths : (Nat → Int32)) : Option ((Nat → Int32)) :=
  fl_X1_fillDepths_2 300 r_t_barred r_tied f_depths (0 : Int32)
def f_X1_depthOf (r_t_barred : (Nat → Int32)) (r_tied : Int32) (f_depths : (Nat → Int32)) (p2 : Int32) : Option (Int32 × (Nat → Int32)) :=
  (match f_X1_fillDepths r_t_barred r_tied f_depths with
  | none => none
  | some q1 =>
    (if p2 < 0 ∨ 8 ≤ (p2).toNatClampNeg then none else
      some ((q1 (p2).toNatClampNeg), q1)))
def f_X6_pulls (r_t_kinds : (Nat → Int32)) (r_t_holds : (Nat → Int32)) (r_t_barred : (Nat → Int32)) (r_t_size : Int32) (r_tied : Int32) (r_wet : Int32) (r_day : Int32) (f_depths : (Nat → Int32)) (p1 : Int32) (p2 : Int32) : Option (Int32 × (Nat → Int32)) :=
  (if (f_X6_isClause r_t_size p1) = (0 : Int32) then
    some ((-1 : Int32), f_depths)
  else
    (if (f_X6_isForce p2) = (0 : Int32) then
      some ((-1 : Int32), f_depths)
    else
      (if (f_X6_has r_tied p1) = (0 : Int32) then
        some ((0 : Int32), f_depths)
      else
        (match f_X4_firmestUpTo r_t_kinds r_t_holds r_t_barred r_tied r_wet r_day p1 with
        | none => none
        | some q1 =>
          (if p2 < q1 then
            some ((-4 : Int32), f_depths)
          else
            (match f_X1_depthOf r_t_barred r_tied f_depths p1 with
            | none => none
            | some q2 =>
              some (q2.1, q2.2)))))))
def fl_X7_bring_2_3 : Nat → (Nat → Int32) → (Nat → Int32) → Int32 → Int32 → Int32 → Int32 → Option ((Nat → Int32))
  | 0, _, _, _, _, _, _ => none
  | n + 1, m_now, m_tried, v1, v3, v4, v5 =>
    (if v4 ≤ v5 then
      some (m_tried)
    else
      (if (v1 + v5) < 0 ∨ 79 ≤ ((v1 + v5)).toNatClampNeg then none else
        (if (v3 + v5) < 0 ∨ 79 ≤ ((v3 + v5)).toNatClampNeg then none else
          fl_X7_bring_2_3 n m_now (upd m_tried ((v3 + v5)).toNatClampNeg (m_now ((v1 + v5)).toNatClampNeg)) v1 v3 v4 (v5 + (1 : Int32)))))
def f_X7_bring_2 (m_now : (Nat → Int32)) (m_tried : (Nat → Int32)) (p1 : Int32) (p3 : Int32) (p4 : Int32) : Option ((Nat → Int32)) :=
  fl_X7_bring_2_3 300 m_now m_tried p1 p3 p4 (0 : Int32)
def f_X7_begin (m_now : (Nat → Int32)) (m_tried : (Nat → Int32)) : Option ((Nat → Int32)) :=
  (match f_X7_bring_2 m_now m_tried (0 : Int32) (0 : Int32) (79 : Int32) with
  | none => none
  | some q1 =>
    some (q1))
def f_X7_isFree_1 (m_tried : (Nat → Int32)) (p1 : Int32) (p2 : Int32) : Option (Int32) :=
  (if (f_X7_has p2 p1) = (0 : Int32) then
    some ((0 : Int32))
  else
    (if ((22 : Int32) + p1) < 0 ∨ 79 ≤ (((22 : Int32) + p1)).toNatClampNeg then none else
      (if ((m_tried (((22 : Int32) + p1)).toNatClampNeg) &&& p2) = (0 : Int32) then
        some ((1 : Int32))
      else
        some ((0 : Int32)))))
def f_X7_firmBy_1 (m_tried : (Nat → Int32)) (p1 : Int32) (p2 : Int32) : Int32 :=
  (if (m_tried 3) = (1 : Int32) then
    (if p1 = (0 : Int32) then
      ((2 : Int32) * p2)
    else
    (if p1 = (1 : Int32) then
      (((2 : Int32) * p2) + (10 : Int32))
    else
    (if p1 = (2 : Int32) then
      (((2 : Int32) * p2) / (2 : Int32))
    else
    (if p1 = (3 : Int32) then
      ((((2 : Int32) * p2) + (10 : Int32)) + ((m_tried 0) / (10 : Int32)))
    else
      (if ((m_tried 0) - (m_tried 0) / (7 : Int32) * (7 : Int32)) = (0 : Int32) then
        (0 : Int32)
      else
        (((2 : Int32) * p2) / (2 : Int32)))))))
  else
    (if p1 = (0 : Int32) then
      p2
    else
    (if p1 = (1 : Int32) then
      (p2 + (10 : Int32))
    else
    (if p1 = (2 : Int32) then
      (p2 / (2 : Int32))
    else
    (if p1 = (3 : Int32) then
      ((p2 + (10 : Int32)) + ((m_tried 0) / (10 : Int32)))
    else
      (if ((m_tried 0) - (m_tried 0) / (7 : Int32) * (7 : Int32)) = (0 : Int32) then
        (0 : Int32)
      else
        (p2 / (2 : Int32))))))))
def f_X7_firm_1 (m_tried : (Nat → Int32)) (p1 : Int32) : Option (Int32) :=
  (if ((6 : Int32) + p1) < 0 ∨ 79 ≤ (((6 : Int32) + p1)).toNatClampNeg then none else
    (if ((14 : Int32) + p1) < 0 ∨ 79 ≤ (((14 : Int32) + p1)).toNatClampNeg then none else
      some ((f_X7_firmBy_1 m_tried (m_tried (((6 : Int32) + p1)).toNatClampNeg) (m_tried (((14 : Int32) + p1)).toNatClampNeg)))))
def fl_X7_fallsIn_1_4 : Nat → (Nat → Int32) → Int32 → Int32 → Int32 → Option (Int32)
  | 0, _, _, _, _ => none
  | n + 1, m_tried, v1, v2, v3 =>
    (if (m_tried 5) ≤ v3 then
      some (v2)
    else
      (match f_X7_isFree_1 m_tried v3 (m_tried 2) with
      | none => none
      | some q1 =>
        (if q1 = (0 : Int32) then
          fl_X7_fallsIn_1_4 n m_tried v1 (v2 ||| (0 : Int32)) (v3 + (1 : Int32))
        else
          (match f_X7_firm_1 m_tried v3 with
          | none => none
          | some q2 =>
            (if v1 < q2 then
              fl_X7_fallsIn_1_4 n m_tried v1 (v2 ||| (0 : Int32)) (v3 + (1 : Int32))
            else
              fl_X7_fallsIn_1_4 n m_tried v1 (v2 ||| ((1 : Int32) <<< (v3 &&& (31 : Int32)))) (v3 + (1 : Int32)))))))
def f_X7_fallsIn_1 (m_tried : (Nat → Int32)) (p1 : Int32) : Option (Int32) :=
  fl_X7_fallsIn_1_4 300 m_tried p1 (0 : Int32) (0 : Int32)
def f_X7_pullIn_1 (m_tried : (Nat → Int32)) (p1 : Int32) : Option (Int32 × (Nat → Int32)) :=
  (match f_X7_fallsIn_1 m_tried p1 with
  | none => none
  | some q1 =>
    some (q1, (upd m_tried 2 ((m_tried 2) &&& (q1 ^^^ (-1 : Int32))))))
def fl_X7_pulls_26 : Nat → (Nat → Int32) → (Nat → Int32) → Int32 → Int32 → Int32 → Option (Int32 × (Nat → Int32))
  | 0, _, _, _, _, _ => none
  | n + 1, m_now, m_tried, v1, v2, v3 =>
    (if (20 : Int32) < v3 then
      some ((-4 : Int32), m_tried)
    else
      (if (f_X7_has (m_tried 2) v1) = (0 : Int32) then
        some (v3, m_tried)
      else
        (match f_X7_pullIn_1 m_tried v2 with
        | none => none
        | some q2 =>
          fl_X7_pulls_26 n m_now q2.2 v1 v2 (v3 + (1 : Int32)))))
def f_X7_pulls (m_now : (Nat → Int32)) (m_tried : (Nat → Int32)) (p1 : Int32) (p2 : Int32) : Option (Int32 × (Nat → Int32)) :=
  (if (f_X7_isClause m_now p1) = (0 : Int32) then
    some ((-1 : Int32), m_tried)
  else
    (if (f_X7_in p2 (0 : Int32) (99 : Int32)) = (0 : Int32) then
      some ((-1 : Int32), m_tried)
    else
      (match f_X7_begin m_now m_tried with
      | none => none
      | some q1 =>
        fl_X7_pulls_26 300 m_now q1 p1 p2 (0 : Int32))))
def f_X6_force (r_t_kinds : (Nat → Int32)) (r_t_holds : (Nat → Int32)) (r_t_barred : (Nat → Int32)) (r_t_size : Int32) (r_tied : Int32) (r_wet : Int32) (r_day : Int32) (f_depths : (Nat → Int32)) (p1 : Int32) (p2 : Int32) : Option (Int32 × (Nat → Int32)) :=
  (if (f_X6_isClause r_t_size p1) = (0 : Int32) then
    some ((-1 : Int32), f_depths)
  else
    (if (f_X6_isWithin p2 (1 : Int32) (8 : Int32)) = (0 : Int32) then
      some ((-1 : Int32), f_depths)
    else
      (if (f_X6_has r_tied p1) = (0 : Int32) then
        some ((0 : Int32), f_depths)
      else
        (match f_X4_firmestUpTo r_t_kinds r_t_holds r_t_barred r_tied r_wet r_day p1 with
        | none => none
        | some q1 =>
          (if (99 : Int32) < q1 then
            some ((-4 : Int32), f_depths)
          else
            (match f_X1_depthOf r_t_barred r_tied f_depths p1 with
            | none => none
            | some q2 =>
              (if p2 < q2.1 then
                some ((-4 : Int32), q2.2)
              else
                some (q1, q2.2))))))))
def fl_X7_force_35 (ko_22 : (Nat → Int32) → (Nat → Int32) → Int32 → Int32 → Int32 → Option (Int32 × (Nat → Int32))) : Nat → (Nat → Int32) → (Nat → Int32) → Int32 → Int32 → Int32 → Int32 → Option (Int32 × (Nat → Int32))
  | 0, _, _, _, _, _, _ => none
  | n + 1, m_now, m_tried, v1, v2, v3, v4 =>
    (if v2 ≤ v4 then
      (if (f_X7_has (m_tried 2) v1) = (0 : Int32) then
        some (v3, m_tried)
      else
        ko_22 m_now m_tried v1 v2 (v3 + (1 : Int32)))
    else
      (match f_X7_pullIn_1 m_tried v3 with
      | none => none
      | some q2 =>
        fl_X7_force_35 ko_22 n m_now q2.2 v1 v2 v3 (v4 + (1 : Int32))))
def fl_X7_force_22 : Nat → (Nat → Int32) → (Nat → Int32) → Int32 → Int32 → Int32 → Option (Int32 × (Nat → Int32))
  | 0, _, _, _, _, _ => none
  | n + 1, m_now, m_tried, v1, v2, v3 =>
    (if (99 : Int32) < v3 then
      some ((-4 : Int32), m_tried)
    else
      (match f_X7_begin m_now m_tried with
      | none => none
      | some q1 =>
        fl_X7_force_35 (fl_X7_force_22 n) 300 m_now q1 v1 v2 v3 (0 : Int32)))
def f_X7_force (m_now : (Nat → Int32)) (m_tried : (Nat → Int32)) (p1 : Int32) (p2 : Int32) : Option (Int32 × (Nat → Int32)) :=
  (if (f_X7_isClause m_now p1) = (0 : Int32) then
    some ((-1 : Int32), m_tried)
  else
    (if (f_X7_in p2 (1 : Int32) (8 : Int32)) = (0 : Int32) then
      some ((-1 : Int32), m_tried)
    else
      fl_X7_force_22 300 m_now m_tried p1 p2 (0 : Int32)))
def f_X6_needs (r_t_barred : (Nat → Int32)) (r_t_size : Int32) (r_tied : Int32) (p1 : Int32) : Option (Int32) :=
  (if (f_X6_isClause r_t_size p1) = (0 : Int32) then
    some ((-1 : Int32))
  else
    (match f_X4_neededFor r_t_barred r_tied ((1 : Int32) <<< (p1 &&& (31 : Int32))) with
    | none => none
    | some q1 =>
      some ((q1 &&& (((1 : Int32) <<< (p1 &&& (31 : Int32))) ^^^ (-1 : Int32))))))
def fl_X7_needsOf_18 : Nat → (Nat → Int32) → Int32 → Int32 → Option (Int32)
  | 0, _, _, _ => none
  | n + 1, m_now, v2, v3 =>
    (if v3 < (0 : Int32) then
      some (v2)
    else
      (if (f_X7_has v2 v3) = (0 : Int32) then
        fl_X7_needsOf_18 n m_now (v2 ||| (0 : Int32)) (v3 + (-1 : Int32))
      else
        (if ((22 : Int32) + v3) < 0 ∨ 79 ≤ (((22 : Int32) + v3)).toNatClampNeg then none else
          fl_X7_needsOf_18 n m_now (v2 ||| ((m_now (((22 : Int32) + v3)).toNatClampNeg) &&& (m_now 2))) (v3 + (-1 : Int32)))))
def f_X7_needsOf (m_now : (Nat → Int32)) (p1 : Int32) : Option (Int32) :=
  fl_X7_needsOf_18 300 m_now (p1 &&& (m_now 2)) ((m_now 5) - (1 : Int32))
def f_X7_needs (m_now : (Nat → Int32)) (p1 : Int32) : Option (Int32) :=
  (if (f_X7_isClause m_now p1) = (0 : Int32) then
    some ((-1 : Int32))
  else
    (match f_X7_needsOf m_now ((1 : Int32) <<< (p1 &&& (31 : Int32))) with
    | none => none
    | some q1 =>
      some ((q1 &&& (((1 : Int32) <<< (p1 &&& (31 : Int32))) ^^^ (-1 : Int32))))))
def fl_X1_deepest_9 : Nat → (Nat → Int32) → Int32 → (Nat → Int32) → Int32 → Int32 → Option (Int32 × (Nat → Int32))
  | 0, _, _, _, _, _ => none
  | n + 1, r_t_barred, r_tied, f_depths, v2, v3 =>
    (if (8 : Int32) ≤ v3 then
      some (v2, f_depths)
    else
      (if v3 < 0 ∨ 8 ≤ (v3).toNatClampNeg then none else
        fl_X1_deepest_9 n r_t_barred r_tied f_depths (if v2 < (f_depths (v3).toNatClampNeg) then (f_depths (v3).toNatClampNeg) else v2) (v3 + (1 : Int32))))
def f_X1_deepest (r_t_barred : (Nat → Int32)) (r_tied : Int32) (f_depths : (Nat → Int32)) : Option (Int32 × (Nat → Int32)) :=
  (match f_X1_fillDepths r_t_barred r_tied f_depths with
  | none => none
  | some q1 =>
    fl_X1_deepest_9 300 r_t_barred r_tied q1 (0 : Int32) (0 : Int32))
def f_X6_deep (r_t_barred : (Nat → Int32)) (r_tied : Int32) (f_depths : (Nat → Int32)) : Option (Int32 × (Nat → Int32)) :=
  (match f_X1_deepest r_t_barred r_tied f_depths with
  | none => none
  | some q1 =>
    some (q1.1, q1.2))
def fl_X7_deep_39 (ko_9 : (Nat → Int32) → (Nat → Int32) → Int32 → Int32 → Option (Int32 × (Nat → Int32))) : Nat → (Nat → Int32) → (Nat → Int32) → Int32 → Int32 → Int32 → Option (Int32 × (Nat → Int32))
  | 0, _, _, _, _, _ => none
  | n + 1, m_now, m_tried, v2, v3, v4 =>
    (if v3 ≤ v4 then
      (if v3 < 0 ∨ 79 ≤ (v3).toNatClampNeg then none else
        (if v3 < 0 ∨ 79 ≤ (v3).toNatClampNeg then none else
          (if v3 < 0 ∨ 79 ≤ (v3).toNatClampNeg then none else
            (if ((upd m_tried (v3).toNatClampNeg ((m_tried (v3).toNatClampNeg) + (1 : Int32))) (v3).toNatClampNeg) ≤ v2 then
              ko_9 m_now (upd m_tried (v3).toNatClampNeg ((m_tried (v3).toNatClampNeg) + (1 : Int32))) v2 (v3 + (1 : Int32))
            else
              (if v3 < 0 ∨ 79 ≤ (v3).toNatClampNeg then none else
                ko_9 m_now (upd m_tried (v3).toNatClampNeg ((m_tried (v3).toNatClampNeg) + (1 : Int32))) ((upd m_tried (v3).toNatClampNeg ((m_tried (v3).toNatClampNeg) + (1 : Int32))) (v3).toNatClampNeg) (v3 + (1 : Int32)))))))
    else
      (if ((22 : Int32) + v3) < 0 ∨ 79 ≤ (((22 : Int32) + v3)).toNatClampNeg then none else
        (if (f_X7_has (m_now (((22 : Int32) + v3)).toNatClampNeg) v4) = (0 : Int32) then
          (if v3 < 0 ∨ 79 ≤ (v3).toNatClampNeg then none else
            (if v3 < 0 ∨ 79 ≤ (v3).toNatClampNeg then none else
              fl_X7_deep_39 ko_9 n m_now (upd m_tried (v3).toNatClampNeg (m_tried (v3).toNatClampNeg)) v2 v3 (v4 + (1 : Int32))))
        else
          (if v4 < 0 ∨ 79 ≤ (v4).toNatClampNeg then none else
            (if v3 < 0 ∨ 79 ≤ (v3).toNatClampNeg then none else
              (if (m_tried (v4).toNatClampNeg) ≤ (m_tried (v3).toNatClampNeg) then
                (if v3 < 0 ∨ 79 ≤ (v3).toNatClampNeg then none else
                  (if v3 < 0 ∨ 79 ≤ (v3).toNatClampNeg then none else
                    fl_X7_deep_39 ko_9 n m_now (upd m_tried (v3).toNatClampNeg (m_tried (v3).toNatClampNeg)) v2 v3 (v4 + (1 : Int32))))
              else
                (if v4 < 0 ∨ 79 ≤ (v4).toNatClampNeg then none else
                  (if v3 < 0 ∨ 79 ≤ (v3).toNatClampNeg then none else
                    fl_X7_deep_39 ko_9 n m_now (upd m_tried (v3).toNatClampNeg (m_tried (v4).toNatClampNeg)) v2 v3 (v4 + (1 : Int32))))))))))
def fl_X7_deep_9 : Nat → (Nat → Int32) → (Nat → Int32) → Int32 → Int32 → Option (Int32 × (Nat → Int32))
  | 0, _, _, _, _ => none
  | n + 1, m_now, m_tried, v2, v3 =>
    (if (m_now 5) ≤ v3 then
      some (v2, m_tried)
    else
      (if v3 < 0 ∨ 79 ≤ (v3).toNatClampNeg then none else
        (if (f_X7_has (m_now 2) v3) = (0 : Int32) then
          (if v3 < 0 ∨ 79 ≤ (v3).toNatClampNeg then none else
            (if ((upd m_tried (v3).toNatClampNeg (0 : Int32)) (v3).toNatClampNeg) ≤ v2 then
              fl_X7_deep_9 n m_now (upd m_tried (v3).toNatClampNeg (0 : Int32)) v2 (v3 + (1 : Int32))
            else
              (if v3 < 0 ∨ 79 ≤ (v3).toNatClampNeg then none else
                fl_X7_deep_9 n m_now (upd m_tried (v3).toNatClampNeg (0 : Int32)) ((upd m_tried (v3).toNatClampNeg (0 : Int32)) (v3).toNatClampNeg) (v3 + (1 : Int32)))))
        else
          fl_X7_deep_39 (fl_X7_deep_9 n) 300 m_now (upd m_tried (v3).toNatClampNeg (0 : Int32)) v2 v3 (0 : Int32))))
def f_X7_deep (m_now : (Nat → Int32)) (m_tried : (Nat → Int32)) : Option (Int32 × (Nat → Int32)) :=
  fl_X7_deep_9 300 m_now m_tried (0 : Int32) (0 : Int32)
def f_J6_bitCount (p0 : Int32) : Int32 :=
  ((((((((p0 - ((((p0).toUInt32 >>> (((1 : Int32)).toUInt32 &&& Int32.toUInt32 31)).toInt32) &&& (1431655765 : Int32))) &&& (858993459 : Int32)) + (((((p0 - ((((p0).toUInt32 >>> (((1 : Int32)).toUInt32 &&& Int32.toUInt32 31)).toInt32) &&& (1431655765 : Int32)))).toUInt32 >>> (((2 : Int32)).toUInt32 &&& Int32.toUInt32 31)).toInt32) &&& (858993459 : Int32))) + ((((((p0 - ((((p0).toUInt32 >>> (((1 : Int32)).toUInt32 &&& Int32.toUInt32 31)).toInt32) &&& (1431655765 : Int32))) &&& (858993459 : Int32)) + (((((p0 - ((((p0).toUInt32 >>> (((1 : Int32)).toUInt32 &&& Int32.toUInt32 31)).toInt32) &&& (1431655765 : Int32)))).toUInt32 >>> (((2 : Int32)).toUInt32 &&& Int32.toUInt32 31)).toInt32) &&& (858993459 : Int32)))).toUInt32 >>> (((4 : Int32)).toUInt32 &&& Int32.toUInt32 31)).toInt32)) &&& (252645135 : Int32)) + ((((((((p0 - ((((p0).toUInt32 >>> (((1 : Int32)).toUInt32 &&& Int32.toUInt32 31)).toInt32) &&& (1431655765 : Int32))) &&& (858993459 : Int32)) + (((((p0 - ((((p0).toUInt32 >>> (((1 : Int32)).toUInt32 &&& Int32.toUInt32 31)).toInt32) &&& (1431655765 : Int32)))).toUInt32 >>> (((2 : Int32)).toUInt32 &&& Int32.toUInt32 31)).toInt32) &&& (858993459 : Int32))) + ((((((p0 - ((((p0).toUInt32 >>> (((1 : Int32)).toUInt32 &&& Int32.toUInt32 31)).toInt32) &&& (1431655765 : Int32))) &&& (858993459 : Int32)) + (((((p0 - ((((p0).toUInt32 >>> (((1 : Int32)).toUInt32 &&& Int32.toUInt32 31)).toInt32) &&& (1431655765 : Int32)))).toUInt32 >>> (((2 : Int32)).toUInt32 &&& Int32.toUInt32 31)).toInt32) &&& (858993459 : Int32)))).toUInt32 >>> (((4 : Int32)).toUInt32 &&& Int32.toUInt32 31)).toInt32)) &&& (252645135 : Int32))).toUInt32 >>> (((8 : Int32)).toUInt32 &&& Int32.toUInt32 31)).toInt32)) + (((((((((p0 - ((((p0).toUInt32 >>> (((1 : Int32)).toUInt32 &&& Int32.toUInt32 31)).toInt32) &&& (1431655765 : Int32))) &&& (858993459 : Int32)) + (((((p0 - ((((p0).toUInt32 >>> (((1 : Int32)).toUInt32 &&& Int32.toUInt32 31)).toInt32) &&& (1431655765 : Int32)))).toUInt32 >>> (((2 : Int32)).toUInt32 &&& Int32.toUInt32 31)).toInt32) &&& (858993459 : Int32))) + ((((((p0 - ((((p0).toUInt32 >>> (((1 : Int32)).toUInt32 &&& Int32.toUInt32 31)).toInt32) &&& (1431655765 : Int32))) &&& (858993459 : Int32)) + (((((p0 - ((((p0).toUInt32 >>> (((1 : Int32)).toUInt32 &&& Int32.toUInt32 31)).toInt32) &&& (1431655765 : Int32)))).toUInt32 >>> (((2 : Int32)).toUInt32 &&& Int32.toUInt32 31)).toInt32) &&& (858993459 : Int32)))).toUInt32 >>> (((4 : Int32)).toUInt32 &&& Int32.toUInt32 31)).toInt32)) &&& (252645135 : Int32)) + ((((((((p0 - ((((p0).toUInt32 >>> (((1 : Int32)).toUInt32 &&& Int32.toUInt32 31)).toInt32) &&& (1431655765 : Int32))) &&& (858993459 : Int32)) + (((((p0 - ((((p0).toUInt32 >>> (((1 : Int32)).toUInt32 &&& Int32.toUInt32 31)).toInt32) &&& (1431655765 : Int32)))).toUInt32 >>> (((2 : Int32)).toUInt32 &&& Int32.toUInt32 31)).toInt32) &&& (858993459 : Int32))) + ((((((p0 - ((((p0).toUInt32 >>> (((1 : Int32)).toUInt32 &&& Int32.toUInt32 31)).toInt32) &&& (1431655765 : Int32))) &&& (858993459 : Int32)) + (((((p0 - ((((p0).toUInt32 >>> (((1 : Int32)).toUInt32 &&& Int32.toUInt32 31)).toInt32) &&& (1431655765 : Int32)))).toUInt32 >>> (((2 : Int32)).toUInt32 &&& Int32.toUInt32 31)).toInt32) &&& (858993459 : Int32)))).toUInt32 >>> (((4 : Int32)).toUInt32 &&& Int32.toUInt32 31)).toInt32)) &&& (252645135 : Int32))).toUInt32 >>> (((8 : Int32)).toUInt32 &&& Int32.toUInt32 31)).toInt32))).toUInt32 >>> (((16 : Int32)).toUInt32 &&& Int32.toUInt32 31)).toInt32)) &&& (63 : Int32))
def f_X6_frees (r_t_barred : (Nat → Int32)) (r_t_parties : (Nat → Int32)) (r_t_size : Int32) (r_tied : Int32) (p1 : Int32) (p2 : Int32) : Option (Int32) :=
  (if (f_X6_isParty p1) = (0 : Int32) then
    some ((-1 : Int32))
  else
    (if (f_X6_isWithin p2 (0 : Int32) (1 : Int32)) = (0 : Int32) then
      some ((-1 : Int32))
    else
      (match f_X0_owedBy r_t_parties r_t_size p1 with
      | none => none
      | some q1 =>
        (match f_X4_neededFor r_t_barred r_tied q1 with
        | none => none
        | some q2 =>
          (if p2 = (0 : Int32) then
            some ((f_J6_bitCount q2))
          else
            some (q2))))))
def fl_X7_bits_4 : Nat → Int32 → Int32 → Int32 → Option (Int32)
  | 0, _, _, _ => none
  | n + 1, v0, v1, v2 =>
    (if (8 : Int32) ≤ v2 then
      some (v1)
    else
      fl_X7_bits_4 n v0 (v1 + ((v0 >>> (v2 &&& (31 : Int32))) &&& (1 : Int32))) (v2 + (1 : Int32)))
def f_X7_bits (p0 : Int32) : Option (Int32) :=
  fl_X7_bits_4 300 p0 (0 : Int32) (0 : Int32)
def f_X7_frees (m_now : (Nat → Int32)) (p1 : Int32) (p2 : Int32) : Option (Int32) :=
  (if (f_X7_in p1 (0 : Int32) (3 : Int32)) = (0 : Int32) then
    some ((-1 : Int32))
  else
    (if (f_X7_in p2 (0 : Int32) (1 : Int32)) = (0 : Int32) then
      some ((-1 : Int32))
    else
      (match f_X7_owedBy m_now p1 with
      | none => none
      | some q1 =>
        (match f_X7_needsOf m_now q1 with
        | none => none
        | some q2 =>
          (if p2 = (0 : Int32) then
            (match f_X7_bits q2 with
            | none => none
            | some q3 =>
              some (q3))
          else
            some (q2))))))
def fl_X1_fillBars_2 : Nat → (Nat → Int32) → Int32 → (Nat → Int32) → Int32 → Option ((Nat → Int32))
  | 0, _, _, _, _ => none
  | n + 1, r_t_barred, r_tied, f_bars, v2 =>
    (if (8 : Int32) ≤ v2 then
      some (f_bars)
    else
      (if v2 < 0 ∨ 8 ≤ (v2).toNatClampNeg then none else
        (if v2 < 0 ∨ 8 ≤ (v2).toNatClampNeg then none else
          fl_X1_fillBars_2 n r_t_barred r_tied (upd f_bars (v2).toNatClampNeg ((r_t_barred (v2).toNatClampNeg) &&& r_tied)) (v2 + (1 : Int32)))))
def f_X1_fillBars (r_t_barred : (Nat → Int32)) (r_tied : Int32) (f_bars : (Nat → Int32)) : Option ((Nat → Int32)) :=
  fl_X1_fillBars_2 300 r_t_barred r_tied f_bars (0 : Int32)
def fl_X1_waysTo_4 : Nat → (Nat → Int32) → (Nat → Int32) → Int32 → Int32 → Int32 → Option (Int32)
  | 0, _, _, _, _, _ => none
  | n + 1, f_bars, f_ways, v1, v2, v3 =>
    (if (8 : Int32) ≤ v3 then
      some (v2)
    else
      (if (f_X6_has v1 v3) = (0 : Int32) then
        fl_X1_waysTo_4 n f_bars f_ways v1 v2 (v3 + (1 : Int32))
      else
        (if v3 < 0 ∨ 8 ≤ (v3).toNatClampNeg then none else
          (if ((f_bars (v3).toNatClampNeg) &&& (v1 ^^^ (-1 : Int32))) = (0 : Int32) then
            (if (v1 &&& (((1 : Int32) <<< (v3 &&& (31 : Int32))) ^^^ (-1 : Int32))) < 0 ∨ 256 ≤ ((v1 &&& (((1 : Int32) <<< (v3 &&& (31 : Int32))) ^^^ (-1 : Int32)))).toNatClampNeg then none else
              fl_X1_waysTo_4 n f_bars f_ways v1 (v2 + (f_ways ((v1 &&& (((1 : Int32) <<< (v3 &&& (31 : Int32))) ^^^ (-1 : Int32)))).toNatClampNeg)) (v3 + (1 : Int32)))
          else
            fl_X1_waysTo_4 n f_bars f_ways v1 v2 (v3 + (1 : Int32))))))
def f_X1_waysTo (f_bars : (Nat → Int32)) (f_ways : (Nat → Int32)) (p1 : Int32) : Option (Int32) :=
  fl_X1_waysTo_4 300 f_bars f_ways p1 (0 : Int32) (0 : Int32)
def fl_X1_countWays_19 : Nat → (Nat → Int32) → (Nat → Int32) → Int32 → Int32 → Option (Int32 × (Nat → Int32))
  | 0, _, _, _, _ => none
  | n + 1, f_bars, f_ways, v2, v3 =>
    (if v2 < v3 then
      (if v2 < 0 ∨ 256 ≤ (v2).toNatClampNeg then none else
        some ((f_ways (v2).toNatClampNeg), f_ways))
    else
      (if (v3 &&& (v2 ^^^ (-1 : Int32))) = (0 : Int32) then
        (match f_X1_waysTo f_bars f_ways v3 with
        | none => none
        | some q1 =>
          (if v3 < 0 ∨ 256 ≤ (v3).toNatClampNeg then none else
            fl_X1_countWays_19 n f_bars (upd f_ways (v3).toNatClampNeg q1) v2 (v3 + (1 : Int32))))
      else
        fl_X1_countWays_19 n f_bars f_ways v2 (v3 + (1 : Int32))))
def f_X1_countWays (f_bars : (Nat → Int32)) (f_ways : (Nat → Int32)) (p1 : Int32) : Option (Int32 × (Nat → Int32)) :=
  fl_X1_countWays_19 300 f_bars (upd f_ways 0 (1 : Int32)) (p1 &&& (255 : Int32)) (1 : Int32)
def f_X1_countOrders (r_t_barred : (Nat → Int32)) (r_tied : Int32) (f_bars : (Nat → Int32)) (f_ways : (Nat → Int32)) : Option (Int32 × (Nat → Int32) × (Nat → Int32)) :=
  (match f_X1_fillBars r_t_barred r_tied f_bars with
  | none => none
  | some q1 =>
    (match f_X1_countWays q1 f_ways r_tied with
    | none => none
    | some q2 =>
      some (q2.1, q1, q2.2)))
def fl_X6_nthOf_4 : Nat → Int32 → Int32 → Int32 → Option (Int32)
  | 0, _, _, _ => none
  | n + 1, v0, v2, v3 =>
    (if (8 : Int32) ≤ v3 then
      some ((-4 : Int32))
    else
      (if (f_X6_has v0 v3) = (0 : Int32) then
        fl_X6_nthOf_4 n v0 v2 (v3 + (1 : Int32))
      else
        (if v2 = (0 : Int32) then
          some (v3)
        else
          fl_X6_nthOf_4 n v0 (v2 + (-1 : Int32)) (v3 + (1 : Int32)))))
def f_X6_nthOf (p0 : Int32) (p1 : Int32) : Option (Int32) :=
  fl_X6_nthOf_4 300 p0 p1 (0 : Int32)
def f_X6_orders (r_t_barred : (Nat → Int32)) (r_tied : Int32) (f_bars : (Nat → Int32)) (f_ways : (Nat → Int32)) (p1 : Int32) : Option (Int32 × (Nat → Int32) × (Nat → Int32)) :=
  (if (-1 : Int32) ≤ p1 then
    (if p1 = (-1 : Int32) then
      (match f_X1_countOrders r_t_barred r_tied f_bars f_ways with
      | none => none
      | some q1 =>
        some (q1.1, q1.2.1, q1.2.2))
    else
      (match f_X6_nthOf r_tied p1 with
      | none => none
      | some q2 =>
        some (q2, f_bars, f_ways)))
  else
    some ((-1 : Int32), f_bars, f_ways))
def fl_X7_layWays_42 (ko_9 : (Nat → Int32) → (Nat → Int32) → Int32 → Int32 → Int32 → Option ((Nat → Int32))) : Nat → (Nat → Int32) → (Nat → Int32) → Int32 → Int32 → Int32 → Int32 → Option ((Nat → Int32))
  | 0, _, _, _, _, _, _ => none
  | n + 1, m_now, m_ways, v1, v2, v3, v4 =>
    (if (m_now 5) ≤ v4 then
      ko_9 m_now m_ways v1 v2 (v3 + (1 : Int32))
    else
      (match f_X7_isFree m_now v4 v3 with
      | none => none
      | some q1 =>
        (if q1 = (0 : Int32) then
          (if v3 < 0 ∨ 256 ≤ (v3).toNatClampNeg then none else
            (if v3 < 0 ∨ 256 ≤ (v3).toNatClampNeg then none else
              fl_X7_layWays_42 ko_9 n m_now (upd m_ways (v3).toNatClampNeg ((m_ways (v3).toNatClampNeg) + (0 : Int32))) v1 v2 v3 (v4 + (1 : Int32))))
        else
          (if v4 = v1 then
            (if (f_X7_has v3 v2) = (0 : Int32) then
              (if v3 < 0 ∨ 256 ≤ (v3).toNatClampNeg then none else
                (if (v3 &&& (((1 : Int32) <<< (v4 &&& (31 : Int32))) ^^^ (-1 : Int32))) < 0 ∨ 256 ≤ ((v3 &&& (((1 : Int32) <<< (v4 &&& (31 : Int32))) ^^^ (-1 : Int32)))).toNatClampNeg then none else
                  (if v3 < 0 ∨ 256 ≤ (v3).toNatClampNeg then none else
                    fl_X7_layWays_42 ko_9 n m_now (upd m_ways (v3).toNatClampNeg ((m_ways (v3).toNatClampNeg) + (m_ways ((v3 &&& (((1 : Int32) <<< (v4 &&& (31 : Int32))) ^^^ (-1 : Int32)))).toNatClampNeg))) v1 v2 v3 (v4 + (1 : Int32)))))
            else
              (if v3 < 0 ∨ 256 ≤ (v3).toNatClampNeg then none else
                (if v3 < 0 ∨ 256 ≤ (v3).toNatClampNeg then none else
                  fl_X7_layWays_42 ko_9 n m_now (upd m_ways (v3).toNatClampNeg ((m_ways (v3).toNatClampNeg) + (0 : Int32))) v1 v2 v3 (v4 + (1 : Int32)))))
          else
            (if v3 < 0 ∨ 256 ≤ (v3).toNatClampNeg then none else
              (if (v3 &&& (((1 : Int32) <<< (v4 &&& (31 : Int32))) ^^^ (-1 : Int32))) < 0 ∨ 256 ≤ ((v3 &&& (((1 : Int32) <<< (v4 &&& (31 : Int32))) ^^^ (-1 : Int32)))).toNatClampNeg then none else
                (if v3 < 0 ∨ 256 ≤ (v3).toNatClampNeg then none else
                  fl_X7_layWays_42 ko_9 n m_now (upd m_ways (v3).toNatClampNeg ((m_ways (v3).toNatClampNeg) + (m_ways ((v3 &&& (((1 : Int32) <<< (v4 &&& (31 : Int32))) ^^^ (-1 : Int32)))).toNatClampNeg))) v1 v2 v3 (v4 + (1 : Int32)))))))))
def fl_X7_layWays_9 : Nat → (Nat → Int32) → (Nat → Int32) → Int32 → Int32 → Int32 → Option ((Nat → Int32))
  | 0, _, _, _, _, _ => none
  | n + 1, m_now, m_ways, v1, v2, v3 =>
    (if (m_now 2) < v3 then
      some (m_ways)
    else
      (if v3 < 0 ∨ 256 ≤ (v3).toNatClampNeg then none else
        (if (v3 &&& ((m_now 2) ^^^ (-1 : Int32))) = (0 : Int32) then
          fl_X7_layWays_42 (fl_X7_layWays_9 n) 300 m_now (upd m_ways (v3).toNatClampNeg (0 : Int32)) v1 v2 v3 (0 : Int32)
        else
          fl_X7_layWays_9 n m_now (upd m_ways (v3).toNatClampNeg (0 : Int32)) v1 v2 (v3 + (1 : Int32)))))
def f_X7_layWays (m_now : (Nat → Int32)) (m_ways : (Nat → Int32)) (p1 : Int32) (p2 : Int32) : Option ((Nat → Int32)) :=
  fl_X7_layWays_9 300 m_now (upd m_ways 0 (1 : Int32)) p1 p2 (1 : Int32)
def fl_X7_orders_46 (ko_39 : (Nat → Int32) → (Nat → Int32) → Int32 → Int32 → Int32 → Option (Int32 × (Nat → Int32))) : Nat → (Nat → Int32) → (Nat → Int32) → Int32 → Int32 → Int32 → Int32 → Option (Int32 × (Nat → Int32))
  | 0, _, _, _, _, _, _ => none
  | n + 1, m_now, m_ways, v1, v2, v3, v4 =>
    (match f_X7_isFree m_now v4 v2 with
    | none => none
    | some q2 =>
      (if q2 = (0 : Int32) then
        fl_X7_orders_46 ko_39 n m_now m_ways v1 v2 v3 (v4 + (1 : Int32))
      else
        (if v3 = v1 then
          some (v4, m_ways)
        else
          ko_39 m_now m_ways v1 (v2 &&& (((1 : Int32) <<< (v4 &&& (31 : Int32))) ^^^ (-1 : Int32))) (v3 + (1 : Int32)))))
def fl_X7_orders_39 : Nat → (Nat → Int32) → (Nat → Int32) → Int32 → Int32 → Int32 → Option (Int32 × (Nat → Int32))
  | 0, _, _, _, _, _ => none
  | n + 1, m_now, m_ways, v1, v2, v3 =>
    (if v2 = (0 : Int32) then
      some ((-4 : Int32), m_ways)
    else
      fl_X7_orders_46 (fl_X7_orders_39 n) 300 m_now m_ways v1 v2 v3 (0 : Int32))
def f_X7_orders (m_now : (Nat → Int32)) (m_ways : (Nat → Int32)) (p1 : Int32) : Option (Int32 × (Nat → Int32)) :=
  (if (-1 : Int32) ≤ p1 then
    (if p1 = (-1 : Int32) then
      (match f_X7_layWays m_now m_ways (-1 : Int32) (0 : Int32) with
      | none => none
      | some q1 =>
        (if (m_now 2) < 0 ∨ 256 ≤ ((m_now 2)).toNatClampNeg then none else
          some ((q1 ((m_now 2)).toNatClampNeg), q1)))
    else
      fl_X7_orders_39 300 m_now m_ways p1 (m_now 2) (0 : Int32))
  else
    some ((-1 : Int32), m_ways))
def f_X1_countOrdersWith (r_t_barred : (Nat → Int32)) (r_tied : Int32) (f_bars : (Nat → Int32)) (f_ways : (Nat → Int32)) (p2 : Int32) (p3 : Int32) : Option (Int32 × (Nat → Int32) × (Nat → Int32)) :=
  (match f_X1_fillBars r_t_barred r_tied f_bars with
  | none => none
  | some q1 =>
    (if p3 < 0 ∨ 8 ≤ (p3).toNatClampNeg then none else
      (if p3 < 0 ∨ 8 ≤ (p3).toNatClampNeg then none else
        (match f_X1_countWays (upd q1 (p3).toNatClampNeg ((q1 (p3).toNatClampNeg) ||| ((1 : Int32) <<< (p2 &&& (31 : Int32))))) f_ways r_tied with
        | none => none
        | some q2 =>
          some (q2.1, (upd q1 (p3).toNatClampNeg ((q1 (p3).toNatClampNeg) ||| ((1 : Int32) <<< (p2 &&& (31 : Int32))))), q2.2)))))
def f_X6_ahead (r_t_barred : (Nat → Int32)) (r_t_size : Int32) (r_tied : Int32) (f_bars : (Nat → Int32)) (f_ways : (Nat → Int32)) (p1 : Int32) (p2 : Int32) (p3 : Int32) : Option (Int32 × (Nat → Int32) × (Nat → Int32)) :=
  (if (f_X6_isClause r_t_size p1) = (0 : Int32) then
    some ((-1 : Int32), f_bars, f_ways)
  else
    (if (f_X6_isClause r_t_size p2) = (0 : Int32) then
      some ((-1 : Int32), f_bars, f_ways)
    else
      (if p1 = p2 then
        some ((-1 : Int32), f_bars, f_ways)
      else
        (if (f_X6_isWithin p3 (0 : Int32) (1 : Int32)) = (0 : Int32) then
          some ((-1 : Int32), f_bars, f_ways)
        else
          (if (f_X6_has r_tied p1) = (0 : Int32) then
            some ((-2 : Int32), f_bars, f_ways)
          else
            (if (f_X6_has r_tied p2) = (0 : Int32) then
              some ((-2 : Int32), f_bars, f_ways)
            else
              (if p3 = (0 : Int32) then
                (match f_X1_countOrdersWith r_t_barred r_tied f_bars f_ways p1 p2 with
                | none => none
                | some q1 =>
                  some (q1.1, q1.2.1, q1.2.2))
              else
                (match f_X1_countOrders r_t_barred r_tied f_bars f_ways with
                | none => none
                | some q2 =>
                  some (q2.1, q2.2.1, q2.2.2)))))))))
def fl_X7_partOf_5 : Nat → Int32 → Int32 → Int32 → Int32 → Int32 → Option (Int32)
  | 0, _, _, _, _, _ => none
  | n + 1, v0, v1, v2, v3, v4 =>
    (if v4 ≤ (0 : Int32) then
      (if v2 = (0 : Int32) then
        (if v3 = 0 then none else
          some ((v0 / v3)))
      else
        (if v3 = 0 then none else
          some ((v1 / v3))))
    else
      (if v4 = 0 then none else
        fl_X7_partOf_5 n v0 v1 v2 v4 (v3 - v3 / v4 * v4)))
def f_X7_partOf (p0 : Int32) (p1 : Int32) (p2 : Int32) : Option (Int32) :=
  fl_X7_partOf_5 300 p0 p1 p2 p0 p1
def f_X7_ahead (m_now : (Nat → Int32)) (m_ways : (Nat → Int32)) (p1 : Int32) (p2 : Int32) (p3 : Int32) : Option (Int32 × (Nat → Int32)) :=
  (if (f_X7_isClause m_now p1) = (0 : Int32) then
    some ((-1 : Int32), m_ways)
  else
    (if (f_X7_isClause m_now p2) = (0 : Int32) then
      some ((-1 : Int32), m_ways)
    else
      (if p1 = p2 then
        some ((-1 : Int32), m_ways)
      else
        (if (f_X7_in p3 (0 : Int32) (1 : Int32)) = (0 : Int32) then
          some ((-1 : Int32), m_ways)
        else
          (if (f_X7_has (m_now 2) p1) = (0 : Int32) then
            some ((-2 : Int32), m_ways)
          else
            (if (f_X7_has (m_now 2) p2) = (0 : Int32) then
              some ((-2 : Int32), m_ways)
            else
              (match f_X7_layWays m_now m_ways (-1 : Int32) (0 : Int32) with
              | none => none
              | some q1 =>
                (if (m_now 2) < 0 ∨ 256 ≤ ((m_now 2)).toNatClampNeg then none else
                  (match f_X7_layWays m_now q1 p2 p1 with
                  | none => none
                  | some q2 =>
                    (if (m_now 2) < 0 ∨ 256 ≤ ((m_now 2)).toNatClampNeg then none else
                      (match f_X7_partOf (q2 ((m_now 2)).toNatClampNeg) (q1 ((m_now 2)).toNatClampNeg) p3 with
                      | none => none
                      | some q3 =>
                        some (q3, q2))))))))))))
def f_X6_game (r_t_barred : (Nat → Int32)) (r_tied : Int32) (p1 : Int32) (p2 : Int32) : Option (Int32) :=
  (if (f_X6_isWithin p1 (0 : Int32) (1 : Int32)) = (0 : Int32) then
    some ((-1 : Int32))
  else
    (if (f_X6_isWithin p2 (0 : Int32) (1 : Int32)) = (0 : Int32) then
      some ((-1 : Int32))
    else
      (if (((f_J6_bitCount r_tied) + p1) - ((f_J6_bitCount r_tied) + p1) / (2 : Int32) * (2 : Int32)) = (1 : Int32) then
        (if p2 = (0 : Int32) then
          some ((1 : Int32))
        else
          (match f_X4_freeAmong r_t_barred r_tied with
          | none => none
          | some q1 =>
            (match f_X6_nthOf q1 (0 : Int32) with
            | none => none
            | some q2 =>
              some (q2))))
      else
        (if p2 = (0 : Int32) then
          some ((0 : Int32))
        else
          some ((-4 : Int32))))))
def fl_X7_game_74 (ko_42 : (Nat → Int32) → (Nat → Int32) → Int32 → Int32 → Int32 → Option (Int32 × (Nat → Int32))) : Nat → (Nat → Int32) → (Nat → Int32) → Int32 → Int32 → Int32 → Int32 → Option (Int32 × (Nat → Int32))
  | 0, _, _, _, _, _, _ => none
  | n + 1, m_now, m_wins, v2, v3, v4, v5 =>
    (if v5 < (0 : Int32) then
      ko_42 m_now m_wins v2 v3 (v4 + (1 : Int32))
    else
      (if (v4 &&& ((m_now 2) ^^^ (-1 : Int32))) = (0 : Int32) then
        (match f_X7_isFree m_now v5 v4 with
        | none => none
        | some q1 =>
          (if q1 = (0 : Int32) then
            fl_X7_game_74 ko_42 n m_now m_wins v2 v3 v4 (v5 + (-1 : Int32))
          else
            (if (v4 &&& (((1 : Int32) <<< (v5 &&& (31 : Int32))) ^^^ (-1 : Int32))) < 0 ∨ 256 ≤ ((v4 &&& (((1 : Int32) <<< (v5 &&& (31 : Int32))) ^^^ (-1 : Int32)))).toNatClampNeg then none else
              (if (m_wins ((v4 &&& (((1 : Int32) <<< (v5 &&& (31 : Int32))) ^^^ (-1 : Int32)))).toNatClampNeg) = (0 : Int32) then
                (if v4 < 0 ∨ 256 ≤ (v4).toNatClampNeg then none else
                  fl_X7_game_74 ko_42 n m_now (upd m_wins (v4).toNatClampNeg (1 : Int32)) v2 v5 v4 (v5 + (-1 : Int32)))
              else
                fl_X7_game_74 ko_42 n m_now m_wins v2 v3 v4 (v5 + (-1 : Int32))))))
      else
        ko_42 m_now m_wins v2 v3 (v4 + (1 : Int32))))
def fl_X7_game_42 : Nat → (Nat → Int32) → (Nat → Int32) → Int32 → Int32 → Int32 → Option (Int32 × (Nat → Int32))
  | 0, _, _, _, _, _ => none
  | n + 1, m_now, m_wins, v2, v3, v4 =>
    (if (m_now 2) < v4 then
      (if v2 = (0 : Int32) then
        (if (m_now 2) < 0 ∨ 256 ≤ ((m_now 2)).toNatClampNeg then none else
          (if (m_wins ((m_now 2)).toNatClampNeg) = (0 : Int32) then
            some ((0 : Int32), m_wins)
          else
            some ((1 : Int32), m_wins)))
      else
        some (v3, m_wins))
    else
      (if v4 < 0 ∨ 256 ≤ (v4).toNatClampNeg then none else
        fl_X7_game_74 (fl_X7_game_42 n) 300 m_now (upd m_wins (v4).toNatClampNeg (0 : Int32)) v2 (-4 : Int32) v4 ((m_now 5) - (1 : Int32))))
def f_X7_game (m_now : (Nat → Int32)) (m_wins : (Nat → Int32)) (p1 : Int32) (p2 : Int32) : Option (Int32 × (Nat → Int32)) :=
  (if (f_X7_in p1 (0 : Int32) (1 : Int32)) = (0 : Int32) then
    some ((-1 : Int32), m_wins)
  else
    (if (f_X7_in p2 (0 : Int32) (1 : Int32)) = (0 : Int32) then
      some ((-1 : Int32), m_wins)
    else
      (if p1 = (1 : Int32) then
        fl_X7_game_42 300 m_now (upd m_wins 0 (1 : Int32)) p2 (-4 : Int32) (1 : Int32)
      else
        fl_X7_game_42 300 m_now (upd m_wins 0 (0 : Int32)) p2 (-4 : Int32) (1 : Int32))))
def f_X6_cuts (r_t_kinds : (Nat → Int32)) (r_t_holds : (Nat → Int32)) (r_t_barred : (Nat → Int32)) (r_t_size : Int32) (r_tied : Int32) (r_wet : Int32) (r_day : Int32) (p1 : Int32) (p2 : Int32) (p3 : Int32) : Option (Int32) :=
  (if (f_X6_isClause r_t_size p1) = (0 : Int32) then
    some ((-1 : Int32))
  else
    (if (f_X6_isForce p2) = (0 : Int32) then
      some ((-1 : Int32))
    else
      (if (f_X6_isWithin p3 (0 : Int32) (1 : Int32)) = (0 : Int32) then
        some ((-1 : Int32))
      else
        (if (f_X6_has r_tied p1) = (0 : Int32) then
          some ((-4 : Int32))
        else
          (match f_X4_firmOf r_t_kinds r_t_holds r_wet r_day p1 with
          | none => none
          | some q1 =>
            (if q1 ≤ p2 then
              (if p1 < 0 ∨ 8 ≤ (p1).toNatClampNeg then none else
                (if p3 = (0 : Int32) then
                  some ((f_J6_bitCount ((r_t_barred (p1).toNatClampNeg) &&& r_tied)))
                else
                  some (((r_t_barred (p1).toNatClampNeg) &&& r_tied))))
            else
              some ((-4 : Int32))))))))
def fl_X7_cuts_36 : Nat → (Nat → Int32) → (Nat → Int32) → Int32 → Int32 → Int32 → Int32 → Int32 → Option (Int32 × (Nat → Int32))
  | 0, _, _, _, _, _, _, _ => none
  | n + 1, m_now, m_tried, v1, v2, v3, v4, v5 =>
    (if (m_now 2) < v5 then
      (if v4 = (-4 : Int32) then
        some ((-4 : Int32), m_tried)
      else
        (if v3 = (0 : Int32) then
          (match f_X7_bits v4 with
          | none => none
          | some q1 =>
            some (q1, m_tried))
        else
          some (v4, m_tried)))
    else
      (if (v5 &&& ((m_now 2) ^^^ (-1 : Int32))) = (0 : Int32) then
        (if (f_X7_has v5 v1) = (0 : Int32) then
          (if v4 = (-4 : Int32) then
            (match f_X7_begin m_now m_tried with
            | none => none
            | some q2 =>
              (match f_X7_pullIn_1 (upd q2 2 ((q2 2) &&& (v5 ^^^ (-1 : Int32)))) v2 with
              | none => none
              | some q3 =>
                (if (f_X7_has q3.1 v1) = (0 : Int32) then
                  fl_X7_cuts_36 n m_now q3.2 v1 v2 v3 v4 (v5 + (1 : Int32))
                else
                  fl_X7_cuts_36 n m_now q3.2 v1 v2 v3 v5 (v5 + (1 : Int32)))))
          else
            (match f_X7_bits v5 with
            | none => none
            | some q4 =>
              (match f_X7_bits v4 with
              | none => none
              | some q5 =>
                (if q5 ≤ q4 then
                  fl_X7_cuts_36 n m_now m_tried v1 v2 v3 v4 (v5 + (1 : Int32))
                else
                  (match f_X7_begin m_now m_tried with
                  | none => none
                  | some q6 =>
                    (match f_X7_pullIn_1 (upd q6 2 ((q6 2) &&& (v5 ^^^ (-1 : Int32)))) v2 with
                    | none => none
                    | some q7 =>
                      (if (f_X7_has q7.1 v1) = (0 : Int32) then
                        fl_X7_cuts_36 n m_now q7.2 v1 v2 v3 v4 (v5 + (1 : Int32))
                      else
                        fl_X7_cuts_36 n m_now q7.2 v1 v2 v3 v5 (v5 + (1 : Int32)))))))))
        else
          fl_X7_cuts_36 n m_now m_tried v1 v2 v3 v4 (v5 + (1 : Int32)))
      else
        fl_X7_cuts_36 n m_now m_tried v1 v2 v3 v4 (v5 + (1 : Int32))))
def f_X7_cuts (m_now : (Nat → Int32)) (m_tried : (Nat → Int32)) (p1 : Int32) (p2 : Int32) (p3 : Int32) : Option (Int32 × (Nat → Int32)) :=
  (if (f_X7_isClause m_now p1) = (0 : Int32) then
    some ((-1 : Int32), m_tried)
  else
    (if (f_X7_in p2 (0 : Int32) (99 : Int32)) = (0 : Int32) then
      some ((-1 : Int32), m_tried)
    else
      (if (f_X7_in p3 (0 : Int32) (1 : Int32)) = (0 : Int32) then
        some ((-1 : Int32), m_tried)
      else
        fl_X7_cuts_36 300 m_now m_tried p1 p2 p3 (-4 : Int32) (0 : Int32))))
def fl_X6_weather_19 : Nat → (Nat → Int32) → (Nat → Int32) → Int32 → Int32 → Int32 → Int32 → Int32 → Int32 → Option (Int32)
  | 0, _, _, _, _, _, _, _, _ => none
  | n + 1, r_t_kinds, r_t_holds, r_t_size, r_wet, r_day, v1, v2, v3 =>
    (if (60 : Int32) < v3 then
      some ((-4 : Int32))
    else
      (match f_X4_firmOnDay r_t_kinds r_t_holds r_wet v1 (r_day + v3) with
      | none => none
      | some q1 =>
        (if v2 < q1 then
          fl_X6_weather_19 n r_t_kinds r_t_holds r_t_size r_wet r_day v1 v2 (v3 + (1 : Int32))
        else
          some (v3))))
def f_X6_weather (r_t_kinds : (Nat → Int32)) (r_t_holds : (Nat → Int32)) (r_t_size : Int32) (r_wet : Int32) (r_day : Int32) (p1 : Int32) (p2 : Int32) : Option (Int32) :=
  (if (f_X6_isClause r_t_size p1) = (0 : Int32) then
    some ((-1 : Int32))
  else
    (if (f_X6_isForce p2) = (0 : Int32) then
      some ((-1 : Int32))
    else
      fl_X6_weather_19 300 r_t_kinds r_t_holds r_t_size r_wet r_day p1 p2 (0 : Int32)))
def fl_X7_weather_26 : Nat → (Nat → Int32) → (Nat → Int32) → Int32 → Int32 → Int32 → Option (Int32 × (Nat → Int32))
  | 0, _, _, _, _, _ => none
  | n + 1, m_now, m_tried, v1, v2, v3 =>
    (if (60 : Int32) < v3 then
      some ((-4 : Int32), m_tried)
    else
      (match f_X7_firm_1 m_tried v1 with
      | none => none
      | some q2 =>
        (if v2 < q2 then
          fl_X7_weather_26 n m_now (upd m_tried 0 ((m_tried 0) + (1 : Int32))) v1 v2 (v3 + (1 : Int32))
        else
          some (v3, m_tried))))
def f_X7_weather (m_now : (Nat → Int32)) (m_tried : (Nat → Int32)) (p1 : Int32) (p2 : Int32) : Option (Int32 × (Nat → Int32)) :=
  (if (f_X7_isClause m_now p1) = (0 : Int32) then
    some ((-1 : Int32), m_tried)
  else
    (if (f_X7_in p2 (0 : Int32) (99 : Int32)) = (0 : Int32) then
      some ((-1 : Int32), m_tried)
    else
      (match f_X7_begin m_now m_tried with
      | none => none
      | some q1 =>
        fl_X7_weather_26 300 m_now q1 p1 p2 (0 : Int32))))
def fl_X6_lowestPartOf_7 : Nat → Int32 → Int32 → Int32 → Option (Int32)
  | 0, _, _, _ => none
  | n + 1, v2, v3, v4 =>
    (if (8 : Int32) ≤ v4 then
      some (v2)
    else
      (if (v2 - v2 / (2 : Int32) * (2 : Int32)) = (0 : Int32) then
        (if (v3 - v3 / (2 : Int32) * (2 : Int32)) = (0 : Int32) then
          (if ((v2 / (2 : Int32)) - (v2 / (2 : Int32)) / (5 : Int32) * (5 : Int32)) = (0 : Int32) then
            (if ((v3 / (2 : Int32)) - (v3 / (2 : Int32)) / (5 : Int32) * (5 : Int32)) = (0 : Int32) then
              fl_X6_lowestPartOf_7 n ((v2 / (2 : Int32)) / (5 : Int32)) ((v3 / (2 : Int32)) / (5 : Int32)) (v4 + (1 : Int32))
            else
              fl_X6_lowestPartOf_7 n (v2 / (2 : Int32)) (v3 / (2 : Int32)) (v4 + (1 : Int32)))
          else
            fl_X6_lowestPartOf_7 n (v2 / (2 : Int32)) (v3 / (2 : Int32)) (v4 + (1 : Int32)))
        else
          (if (v2 - v2 / (5 : Int32) * (5 : Int32)) = (0 : Int32) then
            (if (v3 - v3 / (5 : Int32) * (5 : Int32)) = (0 : Int32) then
              fl_X6_lowestPartOf_7 n (v2 / (5 : Int32)) (v3 / (5 : Int32)) (v4 + (1 : Int32))
            else
              fl_X6_lowestPartOf_7 n v2 v3 (v4 + (1 : Int32)))
          else
            fl_X6_lowestPartOf_7 n v2 v3 (v4 + (1 : Int32))))
      else
        (if (v2 - v2 / (5 : Int32) * (5 : Int32)) = (0 : Int32) then
          (if (v3 - v3 / (5 : Int32) * (5 : Int32)) = (0 : Int32) then
            fl_X6_lowestPartOf_7 n (v2 / (5 : Int32)) (v3 / (5 : Int32)) (v4 + (1 : Int32))
          else
            fl_X6_lowestPartOf_7 n v2 v3 (v4 + (1 : Int32)))
        else
          fl_X6_lowestPartOf_7 n v2 v3 (v4 + (1 : Int32)))))
def f_X6_lowestPartOf (p0 : Int32) (p1 : Int32) : Option (Int32) :=
  fl_X6_lowestPartOf_7 300 p0 p1 (0 : Int32)
def fl_X6_powerOf_4 : Nat → Int32 → Int32 → Int32 → Int32 → Option (Int32)
  | 0, _, _, _, _ => none
  | n + 1, v0, v1, v2, v3 =>
    (if v1 ≤ v3 then
      some (v2)
    else
      fl_X6_powerOf_4 n v0 v1 (v2 * v0) (v3 + (1 : Int32)))
def f_X6_powerOf (p0 : Int32) (p1 : Int32) : Option (Int32) :=
  fl_X6_powerOf_4 300 p0 p1 (1 : Int32) (0 : Int32)
def f_X6_rotten (r_t_kinds : (Nat → Int32)) (r_t_holds : (Nat → Int32)) (r_t_barred : (Nat → Int32)) (r_t_size : Int32) (r_tied : Int32) (r_wet : Int32) (r_day : Int32) (p1 : Int32) (p2 : Int32) (p3 : Int32) (p4 : Int32) : Option (Int32) :=
  (if (f_X6_isClause r_t_size p1) = (0 : Int32) then
    some ((-1 : Int32))
  else
    (if (f_X6_isForce p2) = (0 : Int32) then
      some ((-1 : Int32))
    else
      (if (f_X6_isWithin p3 (0 : Int32) (10 : Int32)) = (0 : Int32) then
        some ((-1 : Int32))
      else
        (if (f_X6_isWithin p4 (0 : Int32) (1 : Int32)) = (0 : Int32) then
          some ((-1 : Int32))
        else
          (if (f_X6_has r_tied p1) = (0 : Int32) then
            some ((1 : Int32))
          else
            (match f_X4_firmOf r_t_kinds r_t_holds r_wet r_day p1 with
            | none => none
            | some q1 =>
              (if p2 < q1 then
                (if p4 = (0 : Int32) then
                  (match f_X6_lowestPartOf p3 (10 : Int32) with
                  | none => none
                  | some q2 =>
                    some (q2))
                else
                  (match f_X6_lowestPartOf (10 : Int32) p3 with
                  | none => none
                  | some q3 =>
                    some (q3)))
              else
                (if p1 < 0 ∨ 8 ≤ (p1).toNatClampNeg then none else
                  (match f_X6_powerOf (10 : Int32) (f_J6_bitCount ((r_t_barred (p1).toNatClampNeg) &&& r_tied)) with
                  | none => none
                  | some q4 =>
                    (match f_X6_powerOf p3 (f_J6_bitCount ((r_t_barred (p1).toNatClampNeg) &&& r_tied)) with
                    | none => none
                    | some q5 =>
                      (if p4 = (0 : Int32) then
                        (match f_X6_lowestPartOf ((p3 * q4) + (((10 : Int32) - p3) * q5)) ((10 : Int32) * q4) with
                        | none => none
                        | some q6 =>
                          some (q6))
                      else
                        (match f_X6_lowestPartOf ((10 : Int32) * q4) ((p3 * q4) + (((10 : Int32) - p3) * q5)) with
                        | none => none
                        | some q7 =>
                          some (q7)))))))))))))
def fl_X7_rotten_110 (ko_79 : (Nat → Int32) → (Nat → Int32) → Int32 → Int32 → Int32 → Int32 → Int32 → Int32 → Int32 → Option (Int32 × (Nat → Int32))) : Nat → (Nat → Int32) → (Nat → Int32) → Int32 → Int32 → Int32 → Int32 → Int32 → Int32 → Int32 → Int32 → Int32 → Option (Int32 × (Nat → Int32))
  | 0, _, _, _, _, _, _, _, _, _, _, _ => none
  | n + 1, m_now, m_tried, v1, v2, v3, v4, v5, v6, v7, v8, v9 =>
    (if (m_now 5) ≤ v9 then
      (match f_X7_begin m_now m_tried with
      | none => none
      | some q3 =>
        (match f_X7_pullIn_1 (upd q3 2 ((q3 2) &&& (v7 ^^^ (-1 : Int32)))) v2 with
        | none => none
        | some q4 =>
          (if (f_X7_has (q4.2 2) v1) = (0 : Int32) then
            ko_79 m_now q4.2 v1 v2 v3 v4 (v5 + v8) v6 (v7 + (1 : Int32))
          else
            ko_79 m_now q4.2 v1 v2 v3 v4 (v5 + (0 : Int32)) v6 (v7 + (1 : Int32)))))
    else
      (if (f_X7_has (m_now 2) v9) = (0 : Int32) then
        fl_X7_rotten_110 ko_79 n m_now m_tried v1 v2 v3 v4 v5 v6 v7 (v8 * (1 : Int32)) (v9 + (1 : Int32))
      else
        (if (f_X7_has v7 v9) = (0 : Int32) then
          fl_X7_rotten_110 ko_79 n m_now m_tried v1 v2 v3 v4 v5 v6 v7 (v8 * ((10 : Int32) - v3)) (v9 + (1 : Int32))
        else
          fl_X7_rotten_110 ko_79 n m_now m_tried v1 v2 v3 v4 v5 v6 v7 (v8 * v3) (v9 + (1 : Int32)))))
def fl_X7_rotten_79 : Nat → (Nat → Int32) → (Nat → Int32) → Int32 → Int32 → Int32 → Int32 → Int32 → Int32 → Int32 → Option (Int32 × (Nat → Int32))
  | 0, _, _, _, _, _, _, _, _, _ => none
  | n + 1, m_now, m_tried, v1, v2, v3, v4, v5, v6, v7 =>
    (if (m_now 2) < v7 then
      (match f_X7_partOf v5 v6 v4 with
      | none => none
      | some q2 =>
        some (q2, m_tried))
    else
      (if (v7 &&& ((m_now 2) ^^^ (-1 : Int32))) = (0 : Int32) then
        fl_X7_rotten_110 (fl_X7_rotten_79 n) 300 m_now m_tried v1 v2 v3 v4 v5 v6 v7 (1 : Int32) (0 : Int32)
      else
        fl_X7_rotten_79 n m_now m_tried v1 v2 v3 v4 v5 v6 (v7 + (1 : Int32))))
def fl_X7_rotten_49 : Nat → (Nat → Int32) → (Nat → Int32) → Int32 → Int32 → Int32 → Int32 → Int32 → Int32 → Int32 → Option (Int32 × (Nat → Int32))
  | 0, _, _, _, _, _, _, _, _, _ => none
  | n + 1, m_now, m_tried, v1, v2, v3, v4, v5, v6, v7 =>
    (match f_X7_bits (m_now 2) with
    | none => none
    | some q1 =>
      (if q1 ≤ v7 then
        fl_X7_rotten_79 300 m_now m_tried v1 v2 v3 v4 v5 v6 (0 : Int32)
      else
        fl_X7_rotten_49 n m_now m_tried v1 v2 v3 v4 v5 (v6 * (10 : Int32)) (v7 + (1 : Int32))))
def f_X7_rotten (m_now : (Nat → Int32)) (m_tried : (Nat → Int32)) (p1 : Int32) (p2 : Int32) (p3 : Int32) (p4 : Int32) : Option (Int32 × (Nat → Int32)) :=
  (if (f_X7_isClause m_now p1) = (0 : Int32) then
    some ((-1 : Int32), m_tried)
  else
    (if (f_X7_in p2 (0 : Int32) (99 : Int32)) = (0 : Int32) then
      some ((-1 : Int32), m_tried)
    else
      (if (f_X7_in p3 (0 : Int32) (10 : Int32)) = (0 : Int32) then
        some ((-1 : Int32), m_tried)
      else
        (if (f_X7_in p4 (0 : Int32) (1 : Int32)) = (0 : Int32) then
          some ((-1 : Int32), m_tried)
        else
          fl_X7_rotten_49 300 m_now m_tried p1 p2 p3 p4 (0 : Int32) (1 : Int32) (0 : Int32)))))
def f_X0_become_1 (r_t_kinds : (Nat → Int32)) (r_t_holds : (Nat → Int32)) (r_t_barred : (Nat → Int32)) (r_t_parties : (Nat → Int32)) (r_t_size : Int32) (k_t_kinds : (Nat → Int32)) (k_t_holds : (Nat → Int32)) (k_t_barred : (Nat → Int32)) (k_t_parties : (Nat → Int32)) (k_t_size : Int32) : Option ((Nat → Int32) × (Nat → Int32) × (Nat → Int32) × (Nat → Int32) × Int32) :=
  some ((va_cpy r_t_kinds k_t_kinds 0 0 8), (va_cpy r_t_holds k_t_holds 0 0 8), (va_cpy r_t_barred k_t_barred 0 0 8), (va_cpy r_t_parties k_t_parties 0 0 8), r_t_size)
def f_X2_become (r_p_numbers : (Nat → Int32)) (r_p_size : Int32) (k_p_numbers : (Nat → Int32)) (k_p_size : Int32) : Option ((Nat → Int32) × Int32) :=
  some ((va_cpy r_p_numbers k_p_numbers 0 0 40), r_p_size)
def f_X4_become (r_t_kinds : (Nat → Int32)) (r_t_holds : (Nat → Int32)) (r_t_barred : (Nat → Int32)) (r_t_parties : (Nat → Int32)) (r_t_size : Int32) (r_p_numbers : (Nat → Int32)) (r_p_size : Int32) (r_tied : Int32) (r_wars : Int32) (r_wet : Int32) (r_day : Int32) (r_drawn : Int32) (k_t_kinds : (Nat → Int32)) (k_t_holds : (Nat → Int32)) (k_t_barred : (Nat → Int32)) (k_t_parties : (Nat → Int32)) (k_t_size : Int32) (k_p_numbers : (Nat → Int32)) (k_p_size : Int32) (k_tied : Int32) (k_wars : Int32) (k_wet : Int32) (k_day : Int32) (k_drawn : Int32) : Option ((Nat → Int32) × (Nat → Int32) × (Nat → Int32) × (Nat → Int32) × Int32 × (Nat → Int32) × Int32 × Int32 × Int32 × Int32 × Int32 × Int32) :=
  (match f_X0_become_1 r_t_kinds r_t_holds r_t_barred r_t_parties r_t_size k_t_kinds k_t_holds k_t_barred k_t_parties k_t_size with
  | none => none
  | some q1 =>
    (match f_X2_become r_p_numbers r_p_size k_p_numbers k_p_size with
    | none => none
    | some q2 =>
      some (q1.1, q1.2.1, q1.2.2.1, q1.2.2.2.1, q1.2.2.2.2, q2.1, q2.2, r_tied, r_wars, r_wet, r_day, r_drawn)))
def f_X6_image (r_t_kinds : (Nat → Int32)) (r_t_holds : (Nat → Int32)) (r_t_barred : (Nat → Int32)) (r_t_parties : (Nat → Int32)) (r_t_size : Int32) (r_p_numbers : (Nat → Int32)) (r_p_size : Int32) (r_tied : Int32) (r_wars : Int32) (r_wet : Int32) (r_day : Int32) (r_drawn : Int32) (k_t_kinds : (Nat → Int32)) (k_t_holds : (Nat → Int32)) (k_t_barred : (Nat → Int32)) (k_t_parties : (Nat → Int32)) (k_t_size : Int32) (k_p_numbers : (Nat → Int32)) (k_p_size : Int32) (k_tied : Int32) (k_wars : Int32) (k_wet : Int32) (k_day : Int32) (k_drawn : Int32) (isKept : Int32) : Option (Int32 × (Nat → Int32) × (Nat → Int32) × (Nat → Int32) × (Nat → Int32) × Int32 × (Nat → Int32) × Int32 × Int32 × Int32 × Int32 × Int32 × Int32 × Int32) :=
  (match f_X4_become r_t_kinds r_t_holds r_t_barred r_t_parties r_t_size r_p_numbers r_p_size r_tied r_wars r_wet r_day r_drawn k_t_kinds k_t_holds k_t_barred k_t_parties k_t_size k_p_numbers k_p_size k_tied k_wars k_wet k_day k_drawn with
  | none => none
  | some q1 =>
    some ((1 : Int32), q1.1, q1.2.1, q1.2.2.1, q1.2.2.2.1, q1.2.2.2.2.1, q1.2.2.2.2.2.1, q1.2.2.2.2.2.2.1, q1.2.2.2.2.2.2.2.1, q1.2.2.2.2.2.2.2.2.1, q1.2.2.2.2.2.2.2.2.2.1, q1.2.2.2.2.2.2.2.2.2.2.1, q1.2.2.2.2.2.2.2.2.2.2.2, (1 : Int32)))
def fl_X7_bring_3_3 : Nat → (Nat → Int32) → (Nat → Int32) → Int32 → Int32 → Int32 → Int32 → Option ((Nat → Int32))
  | 0, _, _, _, _, _, _ => none
  | n + 1, m_now, m_kept, v1, v3, v4, v5 =>
    (if v4 ≤ v5 then
      some (m_kept)
    else
      (if (v1 + v5) < 0 ∨ 79 ≤ ((v1 + v5)).toNatClampNeg then none else
        (if (v3 + v5) < 0 ∨ 79 ≤ ((v3 + v5)).toNatClampNeg then none else
          fl_X7_bring_3_3 n m_now (upd m_kept ((v3 + v5)).toNatClampNeg (m_now ((v1 + v5)).toNatClampNeg)) v1 v3 v4 (v5 + (1 : Int32)))))
def f_X7_bring_3 (m_now : (Nat → Int32)) (m_kept : (Nat → Int32)) (p1 : Int32) (p3 : Int32) (p4 : Int32) : Option ((Nat → Int32)) :=
  fl_X7_bring_3_3 300 m_now m_kept p1 p3 p4 (0 : Int32)
def f_X7_image (m_now : (Nat → Int32)) (m_kept : (Nat → Int32)) (m_isKept : Int32) : Option (Int32 × (Nat → Int32) × Int32) :=
  (match f_X7_bring_3 m_now m_kept (0 : Int32) (0 : Int32) (79 : Int32) with
  | none => none
  | some q1 =>
    some ((1 : Int32), q1, (1 : Int32)))
def f_X0_become_2 (r_t_kinds : (Nat → Int32)) (r_t_holds : (Nat → Int32)) (r_t_barred : (Nat → Int32)) (r_t_parties : (Nat → Int32)) (r_t_size : Int32) (k_t_kinds : (Nat → Int32)) (k_t_holds : (Nat → Int32)) (k_t_barred : (Nat → Int32)) (k_t_parties : (Nat → Int32)) (k_t_size : Int32) : Option ((Nat → Int32) × (Nat → Int32) × (Nat → Int32) × (Nat → Int32) × Int32) :=
  some ((va_cpy k_t_kinds r_t_kinds 0 0 8), (va_cpy k_t_holds r_t_holds 0 0 8), (va_cpy k_t_barred r_t_barred 0 0 8), (va_cpy k_t_parties r_t_parties 0 0 8), k_t_size)
def f_X2_become_1 (r_p_numbers : (Nat → Int32)) (r_p_size : Int32) (k_p_numbers : (Nat → Int32)) (k_p_size : Int32) : Option ((Nat → Int32) × Int32) :=
  some ((va_cpy k_p_numbers r_p_numbers 0 0 40), k_p_size)
def f_X4_become_1 (r_t_kinds : (Nat → Int32)) (r_t_holds : (Nat → Int32)) (r_t_barred : (Nat → Int32)) (r_t_parties : (Nat → Int32)) (r_t_size : Int32) (r_p_numbers : (Nat → Int32)) (r_p_size : Int32) (r_tied : Int32) (r_wars : Int32) (r_wet : Int32) (r_day : Int32) (r_drawn : Int32) (k_t_kinds : (Nat → Int32)) (k_t_holds : (Nat → Int32)) (k_t_barred : (Nat → Int32)) (k_t_parties : (Nat → Int32)) (k_t_size : Int32) (k_p_numbers : (Nat → Int32)) (k_p_size : Int32) (k_tied : Int32) (k_wars : Int32) (k_wet : Int32) (k_day : Int32) (k_drawn : Int32) : Option ((Nat → Int32) × (Nat → Int32) × (Nat → Int32) × (Nat → Int32) × Int32 × (Nat → Int32) × Int32 × Int32 × Int32 × Int32 × Int32 × Int32) :=
  (match f_X0_become_2 r_t_kinds r_t_holds r_t_barred r_t_parties r_t_size k_t_kinds k_t_holds k_t_barred k_t_parties k_t_size with
  | none => none
  | some q1 =>
    (match f_X2_become_1 r_p_numbers r_p_size k_p_numbers k_p_size with
    | none => none
    | some q2 =>
      some (q1.1, q1.2.1, q1.2.2.1, q1.2.2.2.1, q1.2.2.2.2, q2.1, q2.2, k_tied, k_wars, k_wet, k_day, k_drawn)))
def f_X6_restore (r_t_kinds : (Nat → Int32)) (r_t_holds : (Nat → Int32)) (r_t_barred : (Nat → Int32)) (r_t_parties : (Nat → Int32)) (r_t_size : Int32) (r_p_numbers : (Nat → Int32)) (r_p_size : Int32) (r_tied : Int32) (r_wars : Int32) (r_wet : Int32) (r_day : Int32) (r_drawn : Int32) (k_t_kinds : (Nat → Int32)) (k_t_holds : (Nat → Int32)) (k_t_barred : (Nat → Int32)) (k_t_parties : (Nat → Int32)) (k_t_size : Int32) (k_p_numbers : (Nat → Int32)) (k_p_size : Int32) (k_tied : Int32) (k_wars : Int32) (k_wet : Int32) (k_day : Int32) (k_drawn : Int32) (isKept : Int32) : Option (Int32 × (Nat → Int32) × (Nat → Int32) × (Nat → Int32) × (Nat → Int32) × Int32 × (Nat → Int32) × Int32 × Int32 × Int32 × Int32 × Int32 × Int32) :=
  (if isKept = (0 : Int32) then
    some ((-4 : Int32), r_t_kinds, r_t_holds, r_t_barred, r_t_parties, r_t_size, r_p_numbers, r_p_size, r_tied, r_wars, r_wet, r_day, r_drawn)
  else
    (match f_X4_become_1 r_t_kinds r_t_holds r_t_barred r_t_parties r_t_size r_p_numbers r_p_size r_tied r_wars r_wet r_day r_drawn k_t_kinds k_t_holds k_t_barred k_t_parties k_t_size k_p_numbers k_p_size k_tied k_wars k_wet k_day k_drawn with
    | none => none
    | some q1 =>
      some ((1 : Int32), q1.1, q1.2.1, q1.2.2.1, q1.2.2.2.1, q1.2.2.2.2.1, q1.2.2.2.2.2.1, q1.2.2.2.2.2.2.1, q1.2.2.2.2.2.2.2.1, q1.2.2.2.2.2.2.2.2.1, q1.2.2.2.2.2.2.2.2.2.1, q1.2.2.2.2.2.2.2.2.2.2.1, q1.2.2.2.2.2.2.2.2.2.2.2)))
def fl_X7_bring_4_3 : Nat → (Nat → Int32) → (Nat → Int32) → Int32 → Int32 → Int32 → Int32 → Option ((Nat → Int32))
  | 0, _, _, _, _, _, _ => none
  | n + 1, m_now, m_kept, v1, v3, v4, v5 =>
    (if v4 ≤ v5 then
      some (m_now)
    else
      (if (v1 + v5) < 0 ∨ 79 ≤ ((v1 + v5)).toNatClampNeg then none else
        (if (v3 + v5) < 0 ∨ 79 ≤ ((v3 + v5)).toNatClampNeg then none else
          fl_X7_bring_4_3 n (upd m_now ((v3 + v5)).toNatClampNeg (m_kept ((v1 + v5)).toNatClampNeg)) m_kept v1 v3 v4 (v5 + (1 : Int32)))))
def f_X7_bring_4 (m_now : (Nat → Int32)) (m_kept : (Nat → Int32)) (p1 : Int32) (p3 : Int32) (p4 : Int32) : Option ((Nat → Int32)) :=
  fl_X7_bring_4_3 300 m_now m_kept p1 p3 p4 (0 : Int32)
def f_X7_restore (m_now : (Nat → Int32)) (m_kept : (Nat → Int32)) (m_isKept : Int32) : Option (Int32 × (Nat → Int32)) :=
  (if m_isKept = (0 : Int32) then
    some ((-4 : Int32), m_now)
  else
    (match f_X7_bring_4 m_now m_kept (0 : Int32) (0 : Int32) (79 : Int32) with
    | none => none
    | some q1 =>
      some ((1 : Int32), q1)))
def f_X6_isSheet (p0 : Int32) : Int32 :=
  (f_X6_isWithin p0 (0 : Int32) (3 : Int32))
def f_X6_isLane (p0 : Int32) : Int32 :=
  (f_X6_isWithin p0 (0 : Int32) (3 : Int32))
def f_X5_isInside (s_sizes : (Nat → Int32)) (p1 : Int32) (p2 : Int32) (p3 : Int32) : Option (Int32) :=
  (if p2 < (0 : Int32) then
    some ((0 : Int32))
  else
    (if p3 < (0 : Int32) then
      some ((0 : Int32))
    else
      (if p1 < 0 ∨ 4 ≤ (p1).toNatClampNeg then none else
        (if ((s_sizes (p1).toNatClampNeg) - p3) < p2 then
          some ((0 : Int32))
        else
          some ((1 : Int32))))))
def f_X5_faultOf (s_lanes : (Nat → Int32)) (s_sizes : (Nat → Int32)) (p1 : Int32) (p2 : Int32) (p3 : Int32) (p4 : Int32) : Option (Int32) :=
  (if p1 < 0 ∨ 4 ≤ (p1).toNatClampNeg then none else
    (if (s_lanes (p1).toNatClampNeg) = (-1 : Int32) then
      some ((-11 : Int32))
    else
      (if p1 < 0 ∨ 4 ≤ (p1).toNatClampNeg then none else
        (if (s_lanes (p1).toNatClampNeg) = p2 then
          (match f_X5_isInside s_sizes p1 p3 p4 with
          | none => none
          | some q1 =>
            (if q1 = (0 : Int32) then
              some ((-13 : Int32))
            else
              some ((0 : Int32))))
        else
          some ((-12 : Int32))))))
def f_X5_get (s_sizes : (Nat → Int32)) (s_items : (Nat → Int64)) (p1 : Int32) (p2 : Int32) : Option (Int64) :=
  (match f_X5_isInside s_sizes p1 p2 (1 : Int32) with
  | none => none
  | some q1 =>
    (if q1 = (0 : Int32) then
      some ((0 : Int64))
    else
      (if ((p1 * (24 : Int32)) + p2) < 0 ∨ 96 ≤ (((p1 * (24 : Int32)) + p2)).toNatClampNeg then none else
        some ((s_items (((p1 * (24 : Int32)) + p2)).toNatClampNeg)))))
def fl_X6_areForces_3 : Nat → (Nat → Int32) → (Nat → Int64) → Int32 → Int32 → Int32 → Int32 → Option (Int32)
  | 0, _, _, _, _, _, _ => none
  | n + 1, s_sizes, s_items, v1, v2, v3, v4 =>
    (if v3 ≤ v4 then
      some ((1 : Int32))
    else
      (match f_X5_get s_sizes s_items v1 (v2 + ((2 : Int32) * v4)) with
      | none => none
      | some q1 =>
        (if (lg_cmp q1 (0 : Int64)) < (0 : Int32) then
          some ((0 : Int32))
        else
          (if (lg_cmp q1 (99 : Int64)) ≤ (0 : Int32) then
            fl_X6_areForces_3 n s_sizes s_items v1 v2 v3 (v4 + (1 : Int32))
          else
            some ((0 : Int32))))))
def f_X6_areForces (s_sizes : (Nat → Int32)) (s_items : (Nat → Int64)) (p1 : Int32) (p2 : Int32) (p3 : Int32) : Option (Int32) :=
  fl_X6_areForces_3 300 s_sizes s_items p1 p2 p3 (0 : Int32)
def fl_X6_isAsTold_12 : Nat → (Nat → Int32) → (Nat → Int32) → Int32 → (Nat → Int32) → (Nat → Int64) → Int32 → Int32 → Int32 → Int32 → Int32 → Option (Int32)
  | 0, _, _, _, _, _, _, _, _, _, _ => none
  | n + 1, r_t_barred, r_firms, r_tied, s_sizes, s_items, v1, v2, v3, v4, v5 =>
    (if v3 ≤ v5 then
      some ((1 : Int32))
    else
      (match f_X5_get s_sizes s_items v1 (v2 + ((2 : Int32) * v5)) with
      | none => none
      | some q1 =>
        (match f_X4_fallsAmong r_t_barred r_firms v4 (q1).toInt32 with
        | none => none
        | some q2 =>
          (match f_X5_get s_sizes s_items v1 ((v2 + ((2 : Int32) * v5)) + (1 : Int32)) with
          | none => none
          | some q3 =>
            (if (lg_cmp q3 ((f_J6_bitCount q2)).toInt64) = (0 : Int32) then
              fl_X6_isAsTold_12 n r_t_barred r_firms r_tied s_sizes s_items v1 v2 v3 (v4 &&& (q2 ^^^ (-1 : Int32))) (v5 + (1 : Int32))
            else
              some ((0 : Int32)))))))
def f_X6_isAsTold (r_t_barred : (Nat → Int32)) (r_firms : (Nat → Int32)) (r_tied : Int32) (s_sizes : (Nat → Int32)) (s_items : (Nat → Int64)) (p1 : Int32) (p2 : Int32) (p3 : Int32) : Option (Int32) :=
  fl_X6_isAsTold_12 300 r_t_barred r_firms r_tied s_sizes s_items p1 p2 p3 r_tied (0 : Int32)
def fl_X6_kindsFelt_13 : Nat → (Nat → Int32) → (Nat → Int32) → (Nat → Int32) → (Nat → Int32) → Int32 → Int32 → Int32 → (Nat → Int32) → (Nat → Int64) → Int32 → Int32 → Int32 → Int32 → Int32 → Int32 → Option (Int32 × (Nat → Int32))
  | 0, _, _, _, _, _, _, _, _, _, _, _, _, _, _, _ => none
  | n + 1, r_t_kinds, r_t_holds, r_t_barred, r_firms, r_tied, r_wet, r_day, s_sizes, s_items, v1, v2, v3, v4, v5, v6 =>
    (if (5 : Int32) ≤ v6 then
      some (v5, r_firms)
    else
      (if v1 < 0 ∨ 8 ≤ (v1).toNatClampNeg then none else
        (if v1 < 0 ∨ 8 ≤ (v1).toNatClampNeg then none else
          (match f_X6_isAsTold r_t_barred (upd r_firms (v1).toNatClampNeg (f_X4_firmBy r_wet v6 (r_t_holds (v1).toNatClampNeg) r_day)) r_tied s_sizes s_items v2 v3 v4 with
          | none => none
          | some q2 =>
            (if q2 = (0 : Int32) then
              fl_X6_kindsFelt_13 n r_t_kinds r_t_holds r_t_barred (upd r_firms (v1).toNatClampNeg (f_X4_firmBy r_wet v6 (r_t_holds (v1).toNatClampNeg) r_day)) r_tied r_wet r_day s_sizes s_items v1 v2 v3 v4 v5 (v6 + (1 : Int32))
            else
              fl_X6_kindsFelt_13 n r_t_kinds r_t_holds r_t_barred (upd r_firms (v1).toNatClampNeg (f_X4_firmBy r_wet v6 (r_t_holds (v1).toNatClampNeg) r_day)) r_tied r_wet r_day s_sizes s_items v1 v2 v3 v4 (v5 ||| ((1 : Int32) <<< (v6 &&& (31 : Int32)))) (v6 + (1 : Int32)))))))
def f_X6_kindsFelt (r_t_kinds : (Nat → Int32)) (r_t_holds : (Nat → Int32)) (r_t_barred : (Nat → Int32)) (r_firms : (Nat → Int32)) (r_tied : Int32) (r_wet : Int32) (r_day : Int32) (s_sizes : (Nat → Int32)) (s_items : (Nat → Int64)) (p1 : Int32) (p2 : Int32) (p3 : Int32) (p4 : Int32) : Option (Int32 × (Nat → Int32)) :=
  (match f_X4_weigh r_t_kinds r_t_holds r_firms r_wet r_day with
  | none => none
  | some q1 =>
    fl_X6_kindsFelt_13 300 r_t_kinds r_t_holds r_t_barred q1 r_tied r_wet r_day s_sizes s_items p1 p2 p3 p4 (0 : Int32) (0 : Int32))
def fl_X6_holdsFelt_13 : Nat → (Nat → Int32) → (Nat → Int32) → (Nat → Int32) → (Nat → Int32) → Int32 → Int32 → Int32 → (Nat → Int32) → (Nat → Int64) → Int32 → Int32 → Int32 → Int32 → Int32 → Int32 → Option (Int32 × (Nat → Int32))
  | 0, _, _, _, _, _, _, _, _, _, _, _, _, _, _, _ => none
  | n + 1, r_t_kinds, r_t_holds, r_t_barred, r_firms, r_tied, r_wet, r_day, s_sizes, s_items, v1, v2, v3, v4, v5, v6 =>
    (if (20 : Int32) < v6 then
      some (v5, r_firms)
    else
      (if v1 < 0 ∨ 8 ≤ (v1).toNatClampNeg then none else
        (if v1 < 0 ∨ 8 ≤ (v1).toNatClampNeg then none else
          (match f_X6_isAsTold r_t_barred (upd r_firms (v1).toNatClampNeg (f_X4_firmBy r_wet (r_t_kinds (v1).toNatClampNeg) v6 r_day)) r_tied s_sizes s_items v2 v3 v4 with
          | none => none
          | some q2 =>
            (if q2 = (0 : Int32) then
              fl_X6_holdsFelt_13 n r_t_kinds r_t_holds r_t_barred (upd r_firms (v1).toNatClampNeg (f_X4_firmBy r_wet (r_t_kinds (v1).toNatClampNeg) v6 r_day)) r_tied r_wet r_day s_sizes s_items v1 v2 v3 v4 v5 (v6 + (1 : Int32))
            else
              fl_X6_holdsFelt_13 n r_t_kinds r_t_holds r_t_barred (upd r_firms (v1).toNatClampNeg (f_X4_firmBy r_wet (r_t_kinds (v1).toNatClampNeg) v6 r_day)) r_tied r_wet r_day s_sizes s_items v1 v2 v3 v4 (v5 ||| ((1 : Int32) <<< (v6 &&& (31 : Int32)))) (v6 + (1 : Int32)))))))
def f_X6_holdsFelt (r_t_kinds : (Nat → Int32)) (r_t_holds : (Nat → Int32)) (r_t_barred : (Nat → Int32)) (r_firms : (Nat → Int32)) (r_tied : Int32) (r_wet : Int32) (r_day : Int32) (s_sizes : (Nat → Int32)) (s_items : (Nat → Int64)) (p1 : Int32) (p2 : Int32) (p3 : Int32) (p4 : Int32) : Option (Int32 × (Nat → Int32)) :=
  (match f_X4_weigh r_t_kinds r_t_holds r_firms r_wet r_day with
  | none => none
  | some q1 =>
    fl_X6_holdsFelt_13 300 r_t_kinds r_t_holds r_t_barred q1 r_tied r_wet r_day s_sizes s_items p1 p2 p3 p4 (0 : Int32) (1 : Int32))
def f_X6_felt (r_t_kinds : (Nat → Int32)) (r_t_holds : (Nat → Int32)) (r_t_barred : (Nat → Int32)) (r_t_size : Int32) (r_firms : (Nat → Int32)) (r_tied : Int32) (r_wet : Int32) (r_day : Int32) (s_lanes : (Nat → Int32)) (s_sizes : (Nat → Int32)) (s_items : (Nat → Int64)) (p1 : Int32) (p2 : Int32) (p3 : Int32) (p4 : Int32) (p5 : Int32) (p6 : Int32) : Option (Int32 × (Nat → Int32)) :=
  (if (f_X6_isClause r_t_size p1) = (0 : Int32) then
    some ((-1 : Int32), r_firms)
  else
    (if (f_X6_isSheet p2) = (0 : Int32) then
      some ((-1 : Int32), r_firms)
    else
      (if (f_X6_isLane p3) = (0 : Int32) then
        some ((-1 : Int32), r_firms)
      else
        (if (f_X6_isWithin p5 (1 : Int32) (6 : Int32)) = (0 : Int32) then
          some ((-1 : Int32), r_firms)
        else
          (if (f_X6_isWithin p6 (0 : Int32) (1 : Int32)) = (0 : Int32) then
            some ((-1 : Int32), r_firms)
          else
            (match f_X5_faultOf s_lanes s_sizes p2 p3 p4 ((2 : Int32) * p5) with
            | none => none
            | some q1 =>
              (if q1 = (0 : Int32) then
                (match f_X6_areForces s_sizes s_items p2 p4 p5 with
                | none => none
                | some q2 =>
                  (if q2 = (0 : Int32) then
                    some ((-2 : Int32), r_firms)
                  else
                    (if p6 = (0 : Int32) then
                      (match f_X6_kindsFelt r_t_kinds r_t_holds r_t_barred r_firms r_tied r_wet r_day s_sizes s_items p1 p2 p4 p5 with
                      | none => none
                      | some q3 =>
                        some (q3.1, q3.2))
                    else
                      (match f_X6_holdsFelt r_t_kinds r_t_holds r_t_barred r_firms r_tied r_wet r_day s_sizes s_items p1 p2 p4 p5 with
                      | none => none
                      | some q4 =>
                        some (q4.1, q4.2)))))
              else
                some (q1, r_firms))))))))
def f_X7_isSheet (p0 : Int32) : Int32 :=
  (f_X7_in p0 (0 : Int32) (3 : Int32))
def f_X7_isPart (p0 : Int32) (p1 : Int32) (p2 : Int32) : Int32 :=
  (if p1 < (0 : Int32) then
    (0 : Int32)
  else
    (if p0 < (0 : Int32) then
      (0 : Int32)
    else
      (if p2 < p1 then
        (0 : Int32)
      else
        (if (p2 - p1) < p0 then
          (0 : Int32)
        else
          (1 : Int32)))))
def f_X7_wrong (m_lane : (Nat → Int32)) (m_size : (Nat → Int32)) (p1 : Int32) (p2 : Int32) (p3 : Int32) (p4 : Int32) : Option (Int32) :=
  (if p1 < 0 ∨ 4 ≤ (p1).toNatClampNeg then none else
    (if (0 : Int32) ≤ (m_lane (p1).toNatClampNeg) then
      (if p1 < 0 ∨ 4 ≤ (p1).toNatClampNeg then none else
        (if (m_lane (p1).toNatClampNeg) = p2 then
          (if p1 < 0 ∨ 4 ≤ (p1).toNatClampNeg then none else
            (if (f_X7_isPart p3 p4 (m_size (p1).toNatClampNeg)) = (0 : Int32) then
              some ((-13 : Int32))
            else
              some ((0 : Int32))))
        else
          some ((-12 : Int32))))
    else
      some ((-11 : Int32))))
def fl_X7_felt_177 (ko_130 : (Nat → Int32) → (Nat → Int32) → (Nat → Int64) → (Nat → Int32) → (Nat → Int32) → Int32 → Int32 → Int32 → Int32 → Int32 → Int32 → Int32 → Option (Int32 × (Nat → Int32))) : Nat → (Nat → Int32) → (Nat → Int32) → (Nat → Int64) → (Nat → Int32) → (Nat → Int32) → Int32 → Int32 → Int32 → Int32 → Int32 → Int32 → Int32 → Int32 → Int32 → Option (Int32 × (Nat → Int32))
  | 0, _, _, _, _, _, _, _, _, _, _, _, _, _, _ => none
  | n + 1, m_lane, m_size, m_item, m_now, m_tried, v1, v2, v4, v5, v6, v8, v9, v10, v11 =>
    (if v5 ≤ v11 then
      (if v10 = (0 : Int32) then
        ko_130 m_lane m_size m_item m_now m_tried v1 v2 v4 v5 v6 (v8 ||| (0 : Int32)) (v9 + (1 : Int32))
      else
        ko_130 m_lane m_size m_item m_now m_tried v1 v2 v4 v5 v6 (v8 ||| ((1 : Int32) <<< (v9 &&& (31 : Int32)))) (v9 + (1 : Int32)))
    else
      (if ((((24 : Int32) * v2) + v4) + ((2 : Int32) * v11)) < 0 ∨ 96 ≤ (((((24 : Int32) * v2) + v4) + ((2 : Int32) * v11))).toNatClampNeg then none else
        (if v10 = (0 : Int32) then
          fl_X7_felt_177 ko_130 n m_lane m_size m_item m_now m_tried v1 v2 v4 v5 v6 v8 v9 (0 : Int32) (v11 + (1 : Int32))
        else
          (match f_X7_pullIn_1 m_tried ((m_item (((((24 : Int32) * v2) + v4) + ((2 : Int32) * v11))).toNatClampNeg)).toInt32 with
          | none => none
          | some q3 =>
            (match f_X7_bits q3.1 with
            | none => none
            | some q4 =>
              (if (((((24 : Int32) * v2) + v4) + ((2 : Int32) * v11)) + (1 : Int32)) < 0 ∨ 96 ≤ ((((((24 : Int32) * v2) + v4) + ((2 : Int32) * v11)) + (1 : Int32))).toNatClampNeg then none else
                (if (lg_cmp (q4).toInt64 (m_item ((((((24 : Int32) * v2) + v4) + ((2 : Int32) * v11)) + (1 : Int32))).toNatClampNeg)) = (0 : Int32) then
                  fl_X7_felt_177 ko_130 n m_lane m_size m_item m_now q3.2 v1 v2 v4 v5 v6 v8 v9 (1 : Int32) (v11 + (1 : Int32))
                else
                  fl_X7_felt_177 ko_130 n m_lane m_size m_item m_now q3.2 v1 v2 v4 v5 v6 v8 v9 (0 : Int32) (v11 + (1 : Int32)))))))))
def fl_X7_felt_130 : Nat → (Nat → Int32) → (Nat → Int32) → (Nat → Int64) → (Nat → Int32) → (Nat → Int32) → Int32 → Int32 → Int32 → Int32 → Int32 → Int32 → Int32 → Option (Int32 × (Nat → Int32))
  | 0, _, _, _, _, _, _, _, _, _, _, _, _ => none
  | n + 1, m_lane, m_size, m_item, m_now, m_tried, v1, v2, v4, v5, v6, v8, v9 =>
    (if v6 = (0 : Int32) then
      (if (5 : Int32) ≤ v9 then
        some (v8, m_tried)
      else
        (match f_X7_begin m_now m_tried with
        | none => none
        | some q2 =>
          (if v6 = (0 : Int32) then
            (if ((6 : Int32) + v1) < 0 ∨ 79 ≤ (((6 : Int32) + v1)).toNatClampNeg then none else
              fl_X7_felt_177 (fl_X7_felt_130 n) 300 m_lane m_size m_item m_now (upd q2 (((6 : Int32) + v1)).toNatClampNeg v9) v1 v2 v4 v5 v6 v8 v9 (1 : Int32) (0 : Int32))
          else
            (if ((14 : Int32) + v1) < 0 ∨ 79 ≤ (((14 : Int32) + v1)).toNatClampNeg then none else
              fl_X7_felt_177 (fl_X7_felt_130 n) 300 m_lane m_size m_item m_now (upd q2 (((14 : Int32) + v1)).toNatClampNeg v9) v1 v2 v4 v5 v6 v8 v9 (1 : Int32) (0 : Int32)))))
    else
      (if (21 : Int32) ≤ v9 then
        some (v8, m_tried)
      else
        (match f_X7_begin m_now m_tried with
        | none => none
        | some q5 =>
          (if v6 = (0 : Int32) then
            (if ((6 : Int32) + v1) < 0 ∨ 79 ≤ (((6 : Int32) + v1)).toNatClampNeg then none else
              fl_X7_felt_177 (fl_X7_felt_130 n) 300 m_lane m_size m_item m_now (upd q5 (((6 : Int32) + v1)).toNatClampNeg v9) v1 v2 v4 v5 v6 v8 v9 (1 : Int32) (0 : Int32))
          else
            (if ((14 : Int32) + v1) < 0 ∨ 79 ≤ (((14 : Int32) + v1)).toNatClampNeg then none else
              fl_X7_felt_177 (fl_X7_felt_130 n) 300 m_lane m_size m_item m_now (upd q5 (((14 : Int32) + v1)).toNatClampNeg v9) v1 v2 v4 v5 v6 v8 v9 (1 : Int32) (0 : Int32))))))
def fl_X7_felt_72 : Nat → (Nat → Int32) → (Nat → Int32) → (Nat → Int64) → (Nat → Int32) → (Nat → Int32) → Int32 → Int32 → Int32 → Int32 → Int32 → Int32 → Option (Int32 × (Nat → Int32))
  | 0, _, _, _, _, _, _, _, _, _, _, _ => none
  | n + 1, m_lane, m_size, m_item, m_now, m_tried, v1, v2, v4, v5, v6, v8 =>
    (if v5 ≤ v8 then
      fl_X7_felt_130 300 m_lane m_size m_item m_now m_tried v1 v2 v4 v5 v6 (0 : Int32) v6
    else
      (if ((((24 : Int32) * v2) + v4) + ((2 : Int32) * v8)) < 0 ∨ 96 ≤ (((((24 : Int32) * v2) + v4) + ((2 : Int32) * v8))).toNatClampNeg then none else
        (if (lg_cmp (m_item (((((24 : Int32) * v2) + v4) + ((2 : Int32) * v8))).toNatClampNeg) (0 : Int64)) < (0 : Int32) then
          some ((-2 : Int32), m_tried)
        else
          (if (lg_cmp (m_item (((((24 : Int32) * v2) + v4) + ((2 : Int32) * v8))).toNatClampNeg) (99 : Int64)) ≤ (0 : Int32) then
            fl_X7_felt_72 n m_lane m_size m_item m_now m_tried v1 v2 v4 v5 v6 (v8 + (1 : Int32))
          else
            some ((-2 : Int32), m_tried)))))
def f_X7_felt (m_lane : (Nat → Int32)) (m_size : (Nat → Int32)) (m_item : (Nat → Int64)) (m_now : (Nat → Int32)) (m_tried : (Nat → Int32)) (p1 : Int32) (p2 : Int32) (p3 : Int32) (p4 : Int32) (p5 : Int32) (p6 : Int32) : Option (Int32 × (Nat → Int32)) :=
  (if (f_X7_isClause m_now p1) = (0 : Int32) then
    some ((-1 : Int32), m_tried)
  else
    (if (f_X7_isSheet p2) = (0 : Int32) then
      some ((-1 : Int32), m_tried)
    else
      (if (f_X7_in p3 (0 : Int32) (3 : Int32)) = (0 : Int32) then
        some ((-1 : Int32), m_tried)
      else
        (if (f_X7_in p5 (1 : Int32) (6 : Int32)) = (0 : Int32) then
          some ((-1 : Int32), m_tried)
        else
          (if (f_X7_in p6 (0 : Int32) (1 : Int32)) = (0 : Int32) then
            some ((-1 : Int32), m_tried)
          else
            (match f_X7_wrong m_lane m_size p2 p3 p4 ((2 : Int32) * p5) with
            | none => none
            | some q1 =>
              (if q1 = (0 : Int32) then
                fl_X7_felt_72 300 m_lane m_size m_item m_now m_tried p1 p2 p4 p5 p6 (0 : Int32)
              else
                some (q1, m_tried))))))))
def f_X5_lowestBits (p0 : Int32) (p1 : Int64) : Int64 :=
  (if p0 = (0 : Int32) then
    (((p1).toInt32).toInt8.toInt32).toInt64
  else
  (if p0 = (1 : Int32) then
    (((p1).toInt32).toInt16.toInt32).toInt64
  else
  (if p0 = (2 : Int32) then
    ((p1).toInt32).toInt64
  else
    p1)))
def f_X5_put (s_lanes : (Nat → Int32)) (s_sizes : (Nat → Int32)) (s_items : (Nat → Int64)) (p1 : Int32) (p2 : Int32) (p3 : Int64) : Option ((Nat → Int64)) :=
  (match f_X5_isInside s_sizes p1 p2 (1 : Int32) with
  | none => none
  | some q1 =>
    (if q1 = (0 : Int32) then
      some (s_items)
    else
      (if p1 < 0 ∨ 4 ≤ (p1).toNatClampNeg then none else
        (if ((p1 * (24 : Int32)) + p2) < 0 ∨ 96 ≤ (((p1 * (24 : Int32)) + p2)).toNatClampNeg then none else
          some ((vp_updL s_items (((p1 * (24 : Int32)) + p2)).toNatClampNeg (f_X5_lowestBits (s_lanes (p1).toNatClampNeg) p3)))))))
def fl_X6_film_76 : Nat → (Nat → Int32) → (Nat → Int32) → (Nat → Int32) → (Nat → Int32) → Int32 → Int32 → Int32 → (Nat → Int32) → (Nat → Int32) → (Nat → Int64) → Int32 → Int32 → Int32 → Int32 → Int32 → Int32 → Option (Int32 × (Nat → Int32) × (Nat → Int64))
  | 0, _, _, _, _, _, _, _, _, _, _, _, _, _, _, _, _ => none
  | n + 1, r_t_kinds, r_t_holds, r_t_barred, r_firms, r_tied, r_wet, r_day, s_lanes, s_sizes, s_items, v1, v2, v3, v5, v7, v8 =>
    (if v2 ≤ v8 then
      some (v2, r_firms, s_items)
    else
      (match f_X4_fallsAmong r_t_barred r_firms v7 v1 with
      | none => none
      | some q3 =>
        (match f_X5_put s_lanes s_sizes s_items v3 (v5 + v8) ((f_J6_bitCount (v7 &&& (q3 ^^^ (-1 : Int32))))).toInt64 with
        | none => none
        | some q4 =>
          fl_X6_film_76 n r_t_kinds r_t_holds r_t_barred r_firms r_tied r_wet r_day s_lanes s_sizes q4 v1 v2 v3 v5 (v7 &&& (q3 ^^^ (-1 : Int32))) (v8 + (1 : Int32)))))
def f_X6_film (r_t_kinds : (Nat → Int32)) (r_t_holds : (Nat → Int32)) (r_t_barred : (Nat → Int32)) (r_firms : (Nat → Int32)) (r_tied : Int32) (r_wet : Int32) (r_day : Int32) (s_lanes : (Nat → Int32)) (s_sizes : (Nat → Int32)) (s_items : (Nat → Int64)) (p1 : Int32) (p2 : Int32) (p3 : Int32) (p4 : Int32) (p5 : Int32) : Option (Int32 × (Nat → Int32) × (Nat → Int64)) :=
  (if (f_X6_isForce p1) = (0 : Int32) then
    some ((-1 : Int32), r_firms, s_items)
  else
    (if (f_X6_isWithin p2 (1 : Int32) (24 : Int32)) = (0 : Int32) then
      some ((-1 : Int32), r_firms, s_items)
    else
      (if (f_X6_isSheet p3) = (0 : Int32) then
        some ((-1 : Int32), r_firms, s_items)
      else
        (if (f_X6_isLane p4) = (0 : Int32) then
          some ((-1 : Int32), r_firms, s_items)
        else
          (match f_X5_faultOf s_lanes s_sizes p3 p4 p5 p2 with
          | none => none
          | some q1 =>
            (if q1 = (0 : Int32) then
              (match f_X4_weigh r_t_kinds r_t_holds r_firms r_wet r_day with
              | none => none
              | some q2 =>
                fl_X6_film_76 300 r_t_kinds r_t_holds r_t_barred q2 r_tied r_wet r_day s_lanes s_sizes s_items p1 p2 p3 p5 r_tied (0 : Int32))
            else
              some (q1, r_firms, s_items)))))))
def fl_X7_film_66 : Nat → (Nat → Int32) → (Nat → Int32) → (Nat → Int64) → (Nat → Int32) → (Nat → Int32) → Int32 → Int32 → Int32 → Int32 → Int32 → Option (Int32 × (Nat → Int64) × (Nat → Int32))
  | 0, _, _, _, _, _, _, _, _, _, _ => none
  | n + 1, m_lane, m_size, m_item, m_now, m_tried, v1, v2, v3, v5, v7 =>
    (if v2 ≤ v7 then
      some (v2, m_item, m_tried)
    else
      (match f_X7_pullIn_1 m_tried v1 with
      | none => none
      | some q3 =>
        (match f_X7_bits (q3.2 2) with
        | none => none
        | some q4 =>
          (if ((((24 : Int32) * v3) + v5) + v7) < 0 ∨ 96 ≤ (((((24 : Int32) * v3) + v5) + v7)).toNatClampNeg then none else
            fl_X7_film_66 n m_lane m_size (vp_updL m_item (((((24 : Int32) * v3) + v5) + v7)).toNatClampNeg (q4).toInt64) m_now q3.2 v1 v2 v3 v5 (v7 + (1 : Int32))))))
def f_X7_film (m_lane : (Nat → Int32)) (m_size : (Nat → Int32)) (m_item : (Nat → Int64)) (m_now : (Nat → Int32)) (m_tried : (Nat → Int32)) (p1 : Int32) (p2 : Int32) (p3 : Int32) (p4 : Int32) (p5 : Int32) : Option (Int32 × (Nat → Int64) × (Nat → Int32)) :=
  (if (f_X7_in p1 (0 : Int32) (99 : Int32)) = (0 : Int32) then
    some ((-1 : Int32), m_item, m_tried)
  else
    (if (f_X7_in p2 (1 : Int32) (24 : Int32)) = (0 : Int32) then
      some ((-1 : Int32), m_item, m_tried)
    else
      (if (f_X7_isSheet p3) = (0 : Int32) then
        some ((-1 : Int32), m_item, m_tried)
      else
        (if (f_X7_in p4 (0 : Int32) (3 : Int32)) = (0 : Int32) then
          some ((-1 : Int32), m_item, m_tried)
        else
          (match f_X7_wrong m_lane m_size p3 p4 p5 p2 with
          | none => none
          | some q1 =>
            (if q1 = (0 : Int32) then
              (match f_X7_begin m_now m_tried with
              | none => none
              | some q2 =>
                fl_X7_film_66 300 m_lane m_size m_item m_now q2 p1 p2 p3 p5 (0 : Int32))
            else
              some (q1, m_item, m_tried)))))))
def fl_X5_lay_17 : Nat → (Nat → Int32) → (Nat → Int32) → (Nat → Int64) → Int32 → Int32 → Int32 → Option ((Nat → Int32) × (Nat → Int32) × (Nat → Int64))
  | 0, _, _, _, _, _, _ => none
  | n + 1, s_lanes, s_sizes, s_items, v1, v3, v4 =>
    (if v3 ≤ v4 then
      some (s_lanes, s_sizes, s_items)
    else
      (match f_X5_put s_lanes s_sizes s_items v1 v4 (0 : Int64) with
      | none => none
      | some q1 =>
        fl_X5_lay_17 n s_lanes s_sizes q1 v1 v3 (v4 + (1 : Int32))))
def f_X5_lay (s_lanes : (Nat → Int32)) (s_sizes : (Nat → Int32)) (s_items : (Nat → Int64)) (p1 : Int32) (p2 : Int32) (p3 : Int32) : Option ((Nat → Int32) × (Nat → Int32) × (Nat → Int64)) :=
  (if p1 < 0 ∨ 4 ≤ (p1).toNatClampNeg then none else
    (if p1 < 0 ∨ 4 ≤ (p1).toNatClampNeg then none else
      fl_X5_lay_17 300 (upd s_lanes (p1).toNatClampNeg p2) (upd s_sizes (p1).toNatClampNeg p3) s_items p1 p3 (0 : Int32)))
def f_X6_sheet (s_lanes : (Nat → Int32)) (s_sizes : (Nat → Int32)) (s_items : (Nat → Int64)) (p1 : Int32) (p2 : Int32) (p3 : Int32) : Option (Int32 × (Nat → Int32) × (Nat → Int32) × (Nat → Int64)) :=
  (if (f_X6_isSheet p1) = (0 : Int32) then
    some ((-1 : Int32), s_lanes, s_sizes, s_items)
  else
    (if (f_X6_isLane p2) = (0 : Int32) then
      some ((-1 : Int32), s_lanes, s_sizes, s_items)
    else
      (if p3 ≤ (24 : Int32) then
        (if (0 : Int32) ≤ p3 then
          (match f_X5_lay s_lanes s_sizes s_items p1 p2 p3 with
          | none => none
          | some q1 =>
            some (p3, q1.1, q1.2.1, q1.2.2))
        else
          some ((-14 : Int32), s_lanes, s_sizes, s_items))
      else
        some ((-1 : Int32), s_lanes, s_sizes, s_items))))
def fl_X7_sheet_48 : Nat → (Nat → Int32) → (Nat → Int32) → (Nat → Int64) → Int32 → Int32 → Int32 → Option (Int32 × (Nat → Int32) × (Nat → Int32) × (Nat → Int64))
  | 0, _, _, _, _, _, _ => none
  | n + 1, m_lane, m_size, m_item, v1, v3, v4 =>
    (if (24 : Int32) ≤ v4 then
      some (v3, m_lane, m_size, m_item)
    else
      (if (((24 : Int32) * v1) + v4) < 0 ∨ 96 ≤ ((((24 : Int32) * v1) + v4)).toNatClampNeg then none else
        fl_X7_sheet_48 n m_lane m_size (vp_updL m_item ((((24 : Int32) * v1) + v4)).toNatClampNeg (0 : Int64)) v1 v3 (v4 + (1 : Int32))))
def f_X7_sheet (m_lane : (Nat → Int32)) (m_size : (Nat → Int32)) (m_item : (Nat → Int64)) (p1 : Int32) (p2 : Int32) (p3 : Int32) : Option (Int32 × (Nat → Int32) × (Nat → Int32) × (Nat → Int64)) :=
  (if (f_X7_isSheet p1) = (0 : Int32) then
    some ((-1 : Int32), m_lane, m_size, m_item)
  else
    (if (f_X7_in p2 (0 : Int32) (3 : Int32)) = (0 : Int32) then
      some ((-1 : Int32), m_lane, m_size, m_item)
    else
      (if p3 ≤ (24 : Int32) then
        (if (0 : Int32) ≤ p3 then
          (if p1 < 0 ∨ 4 ≤ (p1).toNatClampNeg then none else
            (if p1 < 0 ∨ 4 ≤ (p1).toNatClampNeg then none else
              fl_X7_sheet_48 300 (upd m_lane (p1).toNatClampNeg p2) (upd m_size (p1).toNatClampNeg p3) m_item p1 p3 (0 : Int32)))
        else
          some ((-14 : Int32), m_lane, m_size, m_item))
      else
        some ((-1 : Int32), m_lane, m_size, m_item))))
def f_X5_takeAway (s_lanes : (Nat → Int32)) (s_sizes : (Nat → Int32)) (p1 : Int32) : Option (Int32 × (Nat → Int32)) :=
  (if p1 < 0 ∨ 4 ≤ (p1).toNatClampNeg then none else
    (if (s_lanes (p1).toNatClampNeg) = (-1 : Int32) then
      some ((-11 : Int32), s_lanes)
    else
      (if p1 < 0 ∨ 4 ≤ (p1).toNatClampNeg then none else
        (if p1 < 0 ∨ 4 ≤ (p1).toNatClampNeg then none else
          some ((s_sizes (p1).toNatClampNeg), (upd s_lanes (p1).toNatClampNeg (-1 : Int32)))))))
def f_X6_drop (s_lanes : (Nat → Int32)) (s_sizes : (Nat → Int32)) (p1 : Int32) : Option (Int32 × (Nat → Int32)) :=
  (if (f_X6_isSheet p1) = (0 : Int32) then
    some ((-1 : Int32), s_lanes)
  else
    (match f_X5_takeAway s_lanes s_sizes p1 with
    | none => none
    | some q1 =>
      some (q1.1, q1.2)))
def f_X7_drop (m_lane : (Nat → Int32)) (m_size : (Nat → Int32)) (p1 : Int32) : Option (Int32 × (Nat → Int32)) :=
  (if (f_X7_isSheet p1) = (0 : Int32) then
    some ((-1 : Int32), m_lane)
  else
    (if p1 < 0 ∨ 4 ≤ (p1).toNatClampNeg then none else
      (if (0 : Int32) ≤ (m_lane (p1).toNatClampNeg) then
        (if p1 < 0 ∨ 4 ≤ (p1).toNatClampNeg then none else
          (if p1 < 0 ∨ 4 ≤ (p1).toNatClampNeg then none else
            some ((m_size (p1).toNatClampNeg), (upd m_lane (p1).toNatClampNeg (-1 : Int32)))))
      else
        some ((-11 : Int32), m_lane))))
def f_X6_item (s_lanes : (Nat → Int32)) (s_sizes : (Nat → Int32)) (s_items : (Nat → Int64)) (p1 : Int32) (p2 : Int32) (p3 : Int32) (p4 : Int64) : Option (Int32 × (Nat → Int64)) :=
  (if (f_X6_isSheet p1) = (0 : Int32) then
    some ((-1 : Int32), s_items)
  else
    (if (f_X6_isLane p2) = (0 : Int32) then
      some ((-1 : Int32), s_items)
    else
      (match f_X5_faultOf s_lanes s_sizes p1 p2 p3 (1 : Int32) with
      | none => none
      | some q1 =>
        (if q1 = (0 : Int32) then
          (match f_X5_put s_lanes s_sizes s_items p1 p3 p4 with
          | none => none
          | some q2 =>
            some ((1 : Int32), q2))
        else
          some (q1, s_items)))))
def f_X7_item (m_lane : (Nat → Int32)) (m_size : (Nat → Int32)) (m_item : (Nat → Int64)) (p1 : Int32) (p2 : Int32) (p3 : Int32) (p4 : Int64) : Option (Int32 × (Nat → Int64)) :=
  (if (f_X7_isSheet p1) = (0 : Int32) then
    some ((-1 : Int32), m_item)
  else
    (if (f_X7_in p2 (0 : Int32) (3 : Int32)) = (0 : Int32) then
      some ((-1 : Int32), m_item)
    else
      (match f_X7_wrong m_lane m_size p1 p2 p3 (1 : Int32) with
      | none => none
      | some q1 =>
        (if q1 = (0 : Int32) then
          (if p2 = (0 : Int32) then
            (if (((24 : Int32) * p1) + p3) < 0 ∨ 96 ≤ ((((24 : Int32) * p1) + p3)).toNatClampNeg then none else
              some ((1 : Int32), (vp_updL m_item ((((24 : Int32) * p1) + p3)).toNatClampNeg (((p4).toInt32).toInt8.toInt32).toInt64)))
          else
            (if p2 = (1 : Int32) then
              (if (((24 : Int32) * p1) + p3) < 0 ∨ 96 ≤ ((((24 : Int32) * p1) + p3)).toNatClampNeg then none else
                some ((1 : Int32), (vp_updL m_item ((((24 : Int32) * p1) + p3)).toNatClampNeg (((p4).toInt32).toInt16.toInt32).toInt64)))
            else
              (if p2 = (2 : Int32) then
                (if (((24 : Int32) * p1) + p3) < 0 ∨ 96 ≤ ((((24 : Int32) * p1) + p3)).toNatClampNeg then none else
                  some ((1 : Int32), (vp_updL m_item ((((24 : Int32) * p1) + p3)).toNatClampNeg ((p4).toInt32).toInt64)))
              else
                (if (((24 : Int32) * p1) + p3) < 0 ∨ 96 ≤ ((((24 : Int32) * p1) + p3)).toNatClampNeg then none else
                  some ((1 : Int32), (vp_updL m_item ((((24 : Int32) * p1) + p3)).toNatClampNeg p4))))))
        else
          some (q1, m_item)))))
def f_X5_carry (s_lanes : (Nat → Int32)) (s_sizes : (Nat → Int32)) (s_items : (Nat → Int64)) (p1 : Int32) (p2 : Int32) (p3 : Int32) (p4 : Int32) (p5 : Int32) : Option (Int32 × (Nat → Int64)) :=
  (if p1 < 0 ∨ 4 ≤ (p1).toNatClampNeg then none else
    (if (s_lanes (p1).toNatClampNeg) = (-1 : Int32) then
      some ((-11 : Int32), s_items)
    else
      (if p3 < 0 ∨ 4 ≤ (p3).toNatClampNeg then none else
        (if (s_lanes (p3).toNatClampNeg) = (-1 : Int32) then
          some ((-11 : Int32), s_items)
        else
          (if p1 < 0 ∨ 4 ≤ (p1).toNatClampNeg then none else
            (if p3 < 0 ∨ 4 ≤ (p3).toNatClampNeg then none else
              (if (s_lanes (p1).toNatClampNeg) = (s_lanes (p3).toNatClampNeg) then
                (match f_X5_isInside s_sizes p1 p2 p5 with
                | none => none
                | some q1 =>
                  (if q1 = (0 : Int32) then
                    some ((-13 : Int32), s_items)
                  else
                    (match f_X5_isInside s_sizes p3 p4 p5 with
                    | none => none
                    | some q2 =>
                      (if q2 = (0 : Int32) then
                        some ((-13 : Int32), s_items)
                      else
                        (if ((p1 * (24 : Int32)) + p2) < 0 ∨ ((p3 * (24 : Int32)) + p4) < 0 ∨ p5 < 0 ∨ 96 < (((p1 * (24 : Int32)) + p2)).toNatClampNeg + (p5).toNatClampNeg ∨ 96 < (((p3 * (24 : Int32)) + p4)).toNatClampNeg + (p5).toNatClampNeg then none else
                          some (p5, (va_cpy s_items s_items (((p1 * (24 : Int32)) + p2)).toNatClampNeg (((p3 * (24 : Int32)) + p4)).toNatClampNeg (p5).toNatClampNeg)))))))
              else
                some ((-12 : Int32), s_items))))))))
def f_X6_copy (s_lanes : (Nat → Int32)) (s_sizes : (Nat → Int32)) (s_items : (Nat → Int64)) (p1 : Int32) (p2 : Int32) (p3 : Int32) (p4 : Int32) (p5 : Int32) : Option (Int32 × (Nat → Int64)) :=
  (if (f_X6_isSheet p1) = (0 : Int32) then
    some ((-1 : Int32), s_items)
  else
    (if (f_X6_isSheet p3) = (0 : Int32) then
      some ((-1 : Int32), s_items)
    else
      (match f_X5_carry s_lanes s_sizes s_items p1 p2 p3 p4 p5 with
      | none => none
      | some q1 =>
        some (q1.1, q1.2))))
def fl_X7_copy_110 : Nat → (Nat → Int32) → (Nat → Int32) → (Nat → Int64) → Int32 → Int32 → Int32 → Int32 → Int32 → Int32 → Int32 → Option (Int32 × (Nat → Int64))
  | 0, _, _, _, _, _, _, _, _, _, _ => none
  | n + 1, m_lane, m_size, m_item, v1, v2, v3, v4, v5, v6, v7 =>
    (if v5 ≤ v7 then
      some (v5, m_item)
    else
      (if v6 = (0 : Int32) then
        (if ((((24 : Int32) * v1) + v2) + v7) < 0 ∨ 96 ≤ (((((24 : Int32) * v1) + v2) + v7)).toNatClampNeg then none else
          (if ((((24 : Int32) * v3) + v4) + v7) < 0 ∨ 96 ≤ (((((24 : Int32) * v3) + v4) + v7)).toNatClampNeg then none else
            fl_X7_copy_110 n m_lane m_size (vp_updL m_item (((((24 : Int32) * v3) + v4) + v7)).toNatClampNeg (m_item (((((24 : Int32) * v1) + v2) + v7)).toNatClampNeg)) v1 v2 v3 v4 v5 v6 (v7 + (1 : Int32))))
      else
        (if ((((24 : Int32) * v1) + v2) + ((v5 - (1 : Int32)) - v7)) < 0 ∨ 96 ≤ (((((24 : Int32) * v1) + v2) + ((v5 - (1 : Int32)) - v7))).toNatClampNeg then none else
          (if ((((24 : Int32) * v3) + v4) + ((v5 - (1 : Int32)) - v7)) < 0 ∨ 96 ≤ (((((24 : Int32) * v3) + v4) + ((v5 - (1 : Int32)) - v7))).toNatClampNeg then none else
            fl_X7_copy_110 n m_lane m_size (vp_updL m_item (((((24 : Int32) * v3) + v4) + ((v5 - (1 : Int32)) - v7))).toNatClampNeg (m_item (((((24 : Int32) * v1) + v2) + ((v5 - (1 : Int32)) - v7))).toNatClampNeg)) v1 v2 v3 v4 v5 v6 (v7 + (1 : Int32))))))
def f_X7_copy (m_lane : (Nat → Int32)) (m_size : (Nat → Int32)) (m_item : (Nat → Int64)) (p1 : Int32) (p2 : Int32) (p3 : Int32) (p4 : Int32) (p5 : Int32) : Option (Int32 × (Nat → Int64)) :=
  (if (f_X7_isSheet p1) = (0 : Int32) then
    some ((-1 : Int32), m_item)
  else
    (if (f_X7_isSheet p3) = (0 : Int32) then
      some ((-1 : Int32), m_item)
    else
      (if p1 < 0 ∨ 4 ≤ (p1).toNatClampNeg then none else
        (if (m_lane (p1).toNatClampNeg) < (0 : Int32) then
          some ((-11 : Int32), m_item)
        else
          (if p3 < 0 ∨ 4 ≤ (p3).toNatClampNeg then none else
            (if (0 : Int32) ≤ (m_lane (p3).toNatClampNeg) then
              (if p1 < 0 ∨ 4 ≤ (p1).toNatClampNeg then none else
                (if p3 < 0 ∨ 4 ≤ (p3).toNatClampNeg then none else
                  (if (m_lane (p1).toNatClampNeg) = (m_lane (p3).toNatClampNeg) then
                    (if p1 < 0 ∨ 4 ≤ (p1).toNatClampNeg then none else
                      (if (f_X7_isPart p2 p5 (m_size (p1).toNatClampNeg)) = (0 : Int32) then
                        some ((-13 : Int32), m_item)
                      else
                        (if p3 < 0 ∨ 4 ≤ (p3).toNatClampNeg then none else
                          (if (f_X7_isPart p4 p5 (m_size (p3).toNatClampNeg)) = (0 : Int32) then
                            some ((-13 : Int32), m_item)
                          else
                            (if p1 = p3 then
                              (if p4 ≤ p2 then
                                fl_X7_copy_110 300 m_lane m_size m_item p1 p2 p3 p4 p5 (0 : Int32) (0 : Int32)
                              else
                                fl_X7_copy_110 300 m_lane m_size m_item p1 p2 p3 p4 p5 (1 : Int32) (0 : Int32))
                            else
                              fl_X7_copy_110 300 m_lane m_size m_item p1 p2 p3 p4 p5 (0 : Int32) (0 : Int32))))))
                  else
                    some ((-12 : Int32), m_item))))
            else
              some ((-11 : Int32), m_item)))))))
end
section
section KL0
variable {L : Nat} {xs : Nat → Int32} {r_t_kinds : (Nat → Int32)} {r_t_holds : (Nat → Int32)} {r_t_barred : (Nat → Int32)} {r_t_parties : (Nat → Int32)} {r_t_size : Int32} {r_p_numbers : (Nat → Int32)} {r_p_size : Int32} {r_firms : (Nat → Int32)} {r_tied : Int32} {r_wars : Int32} {r_wet : Int32} {r_day : Int32} {r_drawn : Int32} {k_t_kinds : (Nat → Int32)} {k_t_holds : (Nat → Int32)} {k_t_barred : (Nat → Int32)} {k_t_parties : (Nat → Int32)} {k_t_size : Int32} {k_p_numbers : (Nat → Int32)} {k_p_size : Int32} {k_firms : (Nat → Int32)} {k_tied : Int32} {k_wars : Int32} {k_wet : Int32} {k_day : Int32} {k_drawn : Int32} {f_depths : (Nat → Int32)} {f_bars : (Nat → Int32)} {f_ways : (Nat → Int32)} {d_letters : (Nat → Int32)} {d_t_kinds : (Nat → Int32)} {d_t_holds : (Nat → Int32)} {d_t_barred : (Nat → Int32)} {d_t_parties : (Nat → Int32)} {d_t_size : Int32} {d_size : Int32} {d_at : Int32} {s_lanes : (Nat → Int32)} {s_sizes : (Nat → Int32)} {s_items : (Nat → Int64)} {isKept : Int32} {m_lane : (Nat → Int32)} {m_size : (Nat → Int32)} {m_item : (Nat → Int64)} {m_letters : Int32} {m_tape : (Nat → Int32)} {m_position : Int32} {m_number : Int32} {m_now : (Nat → Int32)} {m_tried : (Nat → Int32)} {m_read : (Nat → Int32)} {m_kept : (Nat → Int32)} {m_isKept : Int32} {m_ways : (Nat → Int32)} {m_wins : (Nat → Int32)}
set_option maxRecDepth 100000 in
set_option maxHeartbeats 4000000 in
theorem mt_X6_isWithin {p0 : Int32} {p1 : Int32} {p2 : Int32} {r9 : Int32} (hf : f_X6_isWithin p0 p1 p2 = r9) : kn_Post kn_T km_X6_isWithin (0, [(0, .int p0), (1, .int p1), (2, .int p2)], []) (kn_hp L xs r_t_kinds r_t_holds r_t_barred r_t_parties r_t_size r_p_numbers r_p_size r_firms r_tied r_wars r_wet r_day r_drawn k_t_kinds k_t_holds k_t_barred k_t_parties k_t_size k_p_numbers k_p_size k_firms k_tied k_wars k_wet k_day k_drawn f_depths f_bars f_ways d_letters d_t_kinds d_t_holds d_t_barred d_t_parties d_t_size d_size d_at s_lanes s_sizes s_items isKept m_lane m_size m_item m_letters m_tape m_position m_number m_now m_tried m_read m_kept m_isKept m_ways m_wins) (fun v9 h9 => v9 = some (.int r9) ∧ h9 = (kn_hp L xs r_t_kinds r_t_holds r_t_barred r_t_parties r_t_size r_p_numbers r_p_size r_firms r_tied r_wars r_wet r_day r_drawn k_t_kinds k_t_holds k_t_barred k_t_parties k_t_size k_p_numbers k_p_size k_firms k_tied k_wars k_wet k_day k_drawn f_depths f_bars f_ways d_letters d_t_kinds d_t_holds d_t_barred d_t_parties d_t_size d_size d_at s_lanes s_sizes s_items isKept m_lane m_size m_item m_letters m_tape m_position m_number m_now m_tried m_read m_kept m_isKept m_ways m_wins) ∧ (r9 = 0 ∨ r9 = 1)) := by
  unfold f_X6_isWithin at hf
  refine kn_P_steps 2 (f1 := (2, [(0, .int p0), (1, .int p1), (2, .int p2)], [.int p1, .int p0])) (h1 := (kn_hp L xs r_t_kinds r_t_holds r_t_barred r_t_parties r_t_size r_p_numbers r_p_size r_firms r_tied r_wars r_wet r_day r_drawn k_t_kinds k_t_holds k_t_barred k_t_parties k_t_size k_p_numbers k_p_size k_firms k_tied k_wars k_wet k_day k_drawn f_depths f_bars f_ways d_letters d_t_kinds d_t_holds d_t_barred d_t_parties d_t_size d_size d_at s_lanes s_sizes s_items isKept m_lane m_size m_item m_letters m_tape m_position m_number m_now m_tried m_read m_kept m_isKept m_ways m_wins)) (by with_unfolding_all rfl) ?_
  refine kn_Q_if (c := p0 < p1) (t := 14) (n := 5) (l1 := [(0, .int p0), (1, .int p1), (2, .int p2)]) (s1 := []) (by with_unfolding_all rfl) (fun hc1 => ?_) (fun hc1 => ?_)
  · rw [if_pos hc1] at hf
    refine kn_P_steps 1 (f1 := (15, [(0, .int p0), (1, .int p1), (2, .int p2)], [.int (0 : Int32)])) (h1 := (kn_hp L xs r_t_kinds r_t_holds r_t_barred r_t_parties r_t_size r_p_numbers r_p_size r_firms r_tied r_wars r_wet r_day r_drawn k_t_kinds k_t_holds k_t_barred k_t_parties k_t_size k_p_numbers k_p_size k_firms k_tied k_wars k_wet k_day k_drawn f_depths f_bars f_ways d_letters d_t_kinds d_t_holds d_t_barred d_t_parties d_t_size d_size d_at s_lanes s_sizes s_items isKept m_lane m_size m_item m_letters m_tape m_position m_number m_now m_tried m_read m_kept m_isKept m_ways m_wins)) (by with_unfolding_all rfl) ?_
    subst hf
    exact kn_Q_ret (v := some (.int (0 : Int32))) (by with_unfolding_all rfl) ⟨rfl, rfl, Or.inl rfl⟩
  · rw [if_neg hc1] at hf
    refine kn_P_steps 2 (f1 := (7, [(0, .int p0), (1, .int p1), (2, .int p2)], [.int p2, .int p0])) (h1 := (kn_hp L xs r_t_kinds r_t_holds r_t_barred r_t_parties r_t_size r_p_numbers r_p_size r_firms r_tied r_wars r_wet r_day r_drawn k_t_kinds k_t_holds k_t_barred k_t_parties k_t_size k_p_numbers k_p_size k_firms k_tied k_wars k_wet k_day k_drawn f_depths f_bars f_ways d_letters d_t_kinds d_t_holds d_t_barred d_t_parties d_t_size d_size d_at s_lanes s_sizes s_items isKept m_lane m_size m_item m_letters m_tape m_position m_number m_now m_tried m_read m_kept m_isKept m_ways m_wins)) (by with_unfolding_all rfl) ?_
    refine kn_Q_if (c := p2 < p0) (t := 14) (n := 10) (l1 := [(0, .int p0), (1, .int p1), (2, .int p2)]) (s1 := []) (by with_unfolding_all rfl) (fun hc2 => ?_) (fun hc2 => ?_)
    · rw [if_pos hc2] at hf
      refine kn_P_steps 1 (f1 := (15, [(0, .int p0), (1, .int p1), (2, .int p2)], [.int (0 : Int32)])) (h1 := (kn_hp L xs r_t_kinds r_t_holds r_t_barred r_t_parties r_t_size r_p_numbers r_p_size r_firms r_tied r_wars r_wet r_day r_drawn k_t_kinds k_t_holds k_t_barred k_t_parties k_t_size k_p_numbers k_p_size k_firms k_tied k_wars k_wet k_day k_drawn f_depths f_bars f_ways d_letters d_t_kinds d_t_holds d_t_barred d_t_parties d_t_size d_size d_at s_lanes s_sizes s_items isKept m_lane m_size m_item m_letters m_tape m_position m_number m_now m_tried m_read m_kept m_isKept m_ways m_wins)) (by with_unfolding_all rfl) ?_
      subst hf
      exact kn_Q_ret (v := some (.int (0 : Int32))) (by with_unfolding_all rfl) ⟨rfl, rfl, Or.inl rfl⟩
    · rw [if_neg hc2] at hf
      refine kn_P_steps 2 (f1 := (15, [(0, .int p0), (1, .int p1), (2, .int p2)], [.int (1 : Int32)])) (h1 := (kn_hp L xs r_t_kinds r_t_holds r_t_barred r_t_parties r_t_size r_p_numbers r_p_size r_firms r_tied r_wars r_wet r_day r_drawn k_t_kinds k_t_holds k_t_barred k_t_parties k_t_size k_p_numbers k_p_size k_firms k_tied k_wars k_wet k_day k_drawn f_depths f_bars f_ways d_letters d_t_kinds d_t_holds d_t_barred d_t_parties d_t_size d_size d_at s_lanes s_sizes s_items isKept m_lane m_size m_item m_letters m_tape m_position m_number m_now m_tried m_read m_kept m_isKept m_ways m_wins)) (by with_unfolding_all rfl) ?_
      subst hf
      exact kn_Q_ret (v := some (.int (1 : Int32))) (by with_unfolding_all rfl) ⟨rfl, rfl, Or.inr rfl⟩
set_option maxRecDepth 100000 in
set_option maxHeartbeats 4000000 in
theorem mt_X6_isParty {p0 : Int32} {r9 : Int32} (hf : f_X6_isParty p0 = r9) : kn_Post kn_T km_X6_isParty (0, [(0, .int p0)], []) (kn_hp L xs r_t_kinds r_t_holds r_t_barred r_t_parties r_t_size r_p_numbers r_p_size r_firms r_tied r_wars r_wet r_day r_drawn k_t_kinds k_t_holds k_t_barred k_t_parties k_t_size k_p_numbers k_p_size k_firms k_tied k_wars k_wet k_day k_drawn f_depths f_bars f_ways d_letters d_t_kinds d_t_holds d_t_barred d_t_parties d_t_size d_size d_at s_lanes s_sizes s_items isKept m_lane m_size m_item m_letters m_tape m_position m_number m_now m_tried m_read m_kept m_isKept m_ways m_wins) (fun v9 h9 => v9 = some (.int r9) ∧ h9 = (kn_hp L xs r_t_kinds r_t_holds r_t_barred r_t_parties r_t_size r_p_numbers r_p_size r_firms r_tied r_wars r_wet r_day r_drawn k_t_kinds k_t_holds k_t_barred k_t_parties k_t_size k_p_numbers k_p_size k_firms k_tied k_wars k_wet k_day k_drawn f_depths f_bars f_ways d_letters d_t_kinds d_t_holds d_t_barred d_t_parties d_t_size d_size d_at s_lanes s_sizes s_items isKept m_lane m_size m_item m_letters m_tape m_position m_number m_now m_tried m_read m_kept m_isKept m_ways m_wins) ∧ (r9 = 0 ∨ r9 = 1)) := by
  unfold f_X6_isParty at hf
  refine kn_P_steps 3 (f1 := (3, [(0, .int p0)], [.int (3 : Int32), .int (0 : Int32), .int p0])) (h1 := (kn_hp L xs r_t_kinds r_t_holds r_t_barred r_t_parties r_t_size r_p_numbers r_p_size r_firms r_tied r_wars r_wet r_day r_drawn k_t_kinds k_t_holds k_t_barred k_t_parties k_t_size k_p_numbers k_p_size k_firms k_tied k_wars k_wet k_day k_drawn f_depths f_bars f_ways d_letters d_t_kinds d_t_holds d_t_barred d_t_parties d_t_size d_size d_at s_lanes s_sizes s_items isKept m_lane m_size m_item m_letters m_tape m_position m_number m_now m_tried m_read m_kept m_isKept m_ways m_wins)) (by with_unfolding_all rfl) ?_
  refine kn_Q_call (M1 := km_X6_isWithin) (j := 91) (as := [.int p0, .int (0 : Int32), .int (3 : Int32)]) (f1 := (6, [(0, .int p0)], [])) (f0 := (0, [(0, .int p0), (1, .int (0 : Int32)), (2, .int (3 : Int32))], [])) (by with_unfolding_all rfl) (by with_unfolding_all rfl) (by with_unfolding_all rfl) (mt_X6_isWithin rfl) (fun v9 h9 q9 => ?_)
  obtain ⟨rfl, rfl, hz1⟩ := q9
  subst hf
  exact kn_Q_retz (x := (f_X6_isWithin p0 (0 : Int32) (3 : Int32))) (by with_unfolding_all rfl) hz1 ⟨rfl, rfl, hz1⟩
set_option maxRecDepth 100000 in
set_option maxHeartbeats 4000000 in
theorem mt_X0_add {p1 : Int32} {p2 : Int32} {p3 : Int32} {p4 : Int32} {r9 : Int32 × (Nat → Int32) × (Nat → Int32) × (Nat → Int32) × (Nat → Int32) × Int32} (hf : f_X0_add r_t_kinds r_t_holds r_t_barred r_t_parties r_t_size p1 p2 p3 p4 = some r9) : kn_Post kn_T km_X0_add (0, [(0, .ref 3), (1, .int p1), (2, .int p2), (3, .int p3), (4, .int p4)], []) (kn_hp L xs r_t_kinds r_t_holds r_t_barred r_t_parties r_t_size r_p_numbers r_p_size r_firms r_tied r_wars r_wet r_day r_drawn k_t_kinds k_t_holds k_t_barred k_t_parties k_t_size k_p_numbers k_p_size k_firms k_tied k_wars k_wet k_day k_drawn f_depths f_bars f_ways d_letters d_t_kinds d_t_holds d_t_barred d_t_parties d_t_size d_size d_at s_lanes s_sizes s_items isKept m_lane m_size m_item m_letters m_tape m_position m_number m_now m_tried m_read m_kept m_isKept m_ways m_wins) (fun v9 h9 => v9 = some (.int r9.1) ∧ h9 = (kn_hp L xs r9.2.1 r9.2.2.1 r9.2.2.2.1 r9.2.2.2.2.1 r9.2.2.2.2.2 r_p_numbers r_p_size r_firms r_tied r_wars r_wet r_day r_drawn k_t_kinds k_t_holds k_t_barred k_t_parties k_t_size k_p_numbers k_p_size k_firms k_tied k_wars k_wet k_day k_drawn f_depths f_bars f_ways d_letters d_t_kinds d_t_holds d_t_barred d_t_parties d_t_size d_size d_at s_lanes s_sizes s_items isKept m_lane m_size m_item m_letters m_tape m_position m_number m_now m_tried m_read m_kept m_isKept m_ways m_wins)) := by
  unfold f_X0_add at hf
  refine kn_P_steps 4 (f1 := (8, [(5, .int r_t_size), (0, .ref 3), (1, .int p1), (2, .int p2), (3, .int p3), (4, .int p4)], [.int r_t_size])) (h1 := (kn_hp L xs r_t_kinds r_t_holds r_t_barred r_t_parties r_t_size r_p_numbers r_p_size r_firms r_tied r_wars r_wet r_day r_drawn k_t_kinds k_t_holds k_t_barred k_t_parties k_t_size k_p_numbers k_p_size k_firms k_tied k_wars k_wet k_day k_drawn f_depths f_bars f_ways d_letters d_t_kinds d_t_holds d_t_barred d_t_parties d_t_size d_size d_at s_lanes s_sizes s_items isKept m_lane m_size m_item m_letters m_tape m_position m_number m_now m_tried m_read m_kept m_isKept m_ways m_wins)) (by with_unfolding_all rfl) ?_
  refine kn_Q_if (c := r_t_size < (0 : Int32)) (t := 18) (n := 11) (l1 := [(5, .int r_t_size), (0, .ref 3), (1, .int p1), (2, .int p2), (3, .int p3), (4, .int p4)]) (s1 := []) (by with_unfolding_all rfl) (fun hc1 => ?_) (fun hc1 => ?_)
  · rw [if_pos hc1] at hf
    refine kn_P_steps 1 (f1 := (20, [(5, .int r_t_size), (0, .ref 3), (1, .int p1), (2, .int p2), (3, .int p3), (4, .int p4)], [.int (-3 : Int32)])) (h1 := (kn_hp L xs r_t_kinds r_t_holds r_t_barred r_t_parties r_t_size r_p_numbers r_p_size r_firms r_tied r_wars r_wet r_day r_drawn k_t_kinds k_t_holds k_t_barred k_t_parties k_t_size k_p_numbers k_p_size k_firms k_tied k_wars k_wet k_day k_drawn f_depths f_bars f_ways d_letters d_t_kinds d_t_holds d_t_barred d_t_parties d_t_size d_size d_at s_lanes s_sizes s_items isKept m_lane m_size m_item m_letters m_tape m_position m_number m_now m_tried m_read m_kept m_isKept m_ways m_wins)) (by with_unfolding_all rfl) ?_
    replace hf := Option.some.inj hf
    subst hf
    exact kn_Q_ret (v := some (.int (-3 : Int32))) (by with_unfolding_all rfl) ⟨rfl, rfl⟩
  · rw [if_neg hc1] at hf
    refine kn_P_steps 2 (f1 := (15, [(5, .int r_t_size), (0, .ref 3), (1, .int p1), (2, .int p2), (3, .int p3), (4, .int p4)], [.int (8 : Int32), .int r_t_size])) (h1 := (kn_hp L xs r_t_kinds r_t_holds r_t_barred r_t_parties r_t_size r_p_numbers r_p_size r_firms r_tied r_wars r_wet r_day r_drawn k_t_kinds k_t_holds k_t_barred k_t_parties k_t_size k_p_numbers k_p_size k_firms k_tied k_wars k_wet k_day k_drawn f_depths f_bars f_ways d_letters d_t_kinds d_t_holds d_t_barred d_t_parties d_t_size d_size d_at s_lanes s_sizes s_items isKept m_lane m_size m_item m_letters m_tape m_position m_number m_now m_tried m_read m_kept m_isKept m_ways m_wins)) (by with_unfolding_all rfl) ?_
    refine kn_Q_if (c := r_t_size < (8 : Int32)) (t := 21) (n := 18) (l1 := [(5, .int r_t_size), (0, .ref 3), (1, .int p1), (2, .int p2), (3, .int p3), (4, .int p4)]) (s1 := []) (by with_unfolding_all rfl) (fun hc2 => ?_) (fun hc2 => ?_)
    · rw [if_pos hc2] at hf
      refine kn_P_steps 4 (f1 := (28, [(5, .int r_t_size), (0, .ref 3), (1, .int p1), (2, .int p2), (3, .int p3), (4, .int p4)], [.int p1, .int r_t_size, .ref 4])) (h1 := (kn_hp L xs r_t_kinds r_t_holds r_t_barred r_t_parties r_t_size r_p_numbers r_p_size r_firms r_tied r_wars r_wet r_day r_drawn k_t_kinds k_t_holds k_t_barred k_t_parties k_t_size k_p_numbers k_p_size k_firms k_tied k_wars k_wet k_day k_drawn f_depths f_bars f_ways d_letters d_t_kinds d_t_holds d_t_barred d_t_parties d_t_size d_size d_at s_lanes s_sizes s_items isKept m_lane m_size m_item m_letters m_tape m_position m_number m_now m_tried m_read m_kept m_isKept m_ways m_wins)) (by with_unfolding_all rfl) ?_
      by_cases hb3 : r_t_size < 0 ∨ 8 ≤ (r_t_size).toNatClampNeg
      · rw [if_pos hb3] at hf; cases hf
      · rw [if_neg hb3] at hf
        refine kn_Q_ok (c := r_t_size < 0 ∨ 8 ≤ (r_t_size).toNatClampNeg) (t := 29) (l1 := [(5, .int r_t_size), (0, .ref 3), (1, .int p1), (2, .int p2), (3, .int p3), (4, .int p4)]) (s1 := []) (h1 := (kn_hp L xs (upd r_t_kinds (r_t_size).toNatClampNeg p1) r_t_holds r_t_barred r_t_parties r_t_size r_p_numbers r_p_size r_firms r_tied r_wars r_wet r_day r_drawn k_t_kinds k_t_holds k_t_barred k_t_parties k_t_size k_p_numbers k_p_size k_firms k_tied k_wars k_wet k_day k_drawn f_depths f_bars f_ways d_letters d_t_kinds d_t_holds d_t_barred d_t_parties d_t_size d_size d_at s_lanes s_sizes s_items isKept m_lane m_size m_item m_letters m_tape m_position m_number m_now m_tried m_read m_kept m_isKept m_ways m_wins)) (by with_unfolding_all rfl) hb3 ?_
        refine kn_P_steps 4 (f1 := (36, [(5, .int r_t_size), (0, .ref 3), (1, .int p1), (2, .int p2), (3, .int p3), (4, .int p4)], [.int p2, .int r_t_size, .ref 5])) (h1 := (kn_hp L xs (upd r_t_kinds (r_t_size).toNatClampNeg p1) r_t_holds r_t_barred r_t_parties r_t_size r_p_numbers r_p_size r_firms r_tied r_wars r_wet r_day r_drawn k_t_kinds k_t_holds k_t_barred k_t_parties k_t_size k_p_numbers k_p_size k_firms k_tied k_wars k_wet k_day k_drawn f_depths f_bars f_ways d_letters d_t_kinds d_t_holds d_t_barred d_t_parties d_t_size d_size d_at s_lanes s_sizes s_items isKept m_lane m_size m_item m_letters m_tape m_position m_number m_now m_tried m_read m_kept m_isKept m_ways m_wins)) (by with_unfolding_all rfl) ?_
        by_cases hb4 : r_t_size < 0 ∨ 8 ≤ (r_t_size).toNatClampNeg
        · rw [if_pos hb4] at hf; cases hf
        · rw [if_neg hb4] at hf
          refine kn_Q_ok (c := r_t_size < 0 ∨ 8 ≤ (r_t_size).toNatClampNeg) (t := 37) (l1 := [(5, .int r_t_size), (0, .ref 3), (1, .int p1), (2, .int p2), (3, .int p3), (4, .int p4)]) (s1 := []) (h1 := (kn_hp L xs (upd r_t_kinds (r_t_size).toNatClampNeg p1) (upd r_t_holds (r_t_size).toNatClampNeg p2) r_t_barred r_t_parties r_t_size r_p_numbers r_p_size r_firms r_tied r_wars r_wet r_day r_drawn k_t_kinds k_t_holds k_t_barred k_t_parties k_t_size k_p_numbers k_p_size k_firms k_tied k_wars k_wet k_day k_drawn f_depths f_bars f_ways d_letters d_t_kinds d_t_holds d_t_barred d_t_parties d_t_size d_size d_at s_lanes s_sizes s_items isKept m_lane m_size m_item m_letters m_tape m_position m_number m_now m_tried m_read m_kept m_isKept m_ways m_wins)) (by with_unfolding_all rfl) hb4 ?_
          refine kn_P_steps 4 (f1 := (44, [(5, .int r_t_size), (0, .ref 3), (1, .int p1), (2, .int p2), (3, .int p3), (4, .int p4)], [.int p3, .int r_t_size, .ref 6])) (h1 := (kn_hp L xs (upd r_t_kinds (r_t_size).toNatClampNeg p1) (upd r_t_holds (r_t_size).toNatClampNeg p2) r_t_barred r_t_parties r_t_size r_p_numbers r_p_size r_firms r_tied r_wars r_wet r_day r_drawn k_t_kinds k_t_holds k_t_barred k_t_parties k_t_size k_p_numbers k_p_size k_firms k_tied k_wars k_wet k_day k_drawn f_depths f_bars f_ways d_letters d_t_kinds d_t_holds d_t_barred d_t_parties d_t_size d_size d_at s_lanes s_sizes s_items isKept m_lane m_size m_item m_letters m_tape m_position m_number m_now m_tried m_read m_kept m_isKept m_ways m_wins)) (by with_unfolding_all rfl) ?_
          by_cases hb5 : r_t_size < 0 ∨ 8 ≤ (r_t_size).toNatClampNeg
          · rw [if_pos hb5] at hf; cases hf
          · rw [if_neg hb5] at hf
            refine kn_Q_ok (c := r_t_size < 0 ∨ 8 ≤ (r_t_size).toNatClampNeg) (t := 45) (l1 := [(5, .int r_t_size), (0, .ref 3), (1, .int p1), (2, .int p2), (3, .int p3), (4, .int p4)]) (s1 := []) (h1 := (kn_hp L xs (upd r_t_kinds (r_t_size).toNatClampNeg p1) (upd r_t_holds (r_t_size).toNatClampNeg p2) (upd r_t_barred (r_t_size).toNatClampNeg p3) r_t_parties r_t_size r_p_numbers r_p_size r_firms r_tied r_wars r_wet r_day r_drawn k_t_kinds k_t_holds k_t_barred k_t_parties k_t_size k_p_numbers k_p_size k_firms k_tied k_wars k_wet k_day k_drawn f_depths f_bars f_ways d_letters d_t_kinds d_t_holds d_t_barred d_t_parties d_t_size d_size d_at s_lanes s_sizes s_items isKept m_lane m_size m_item m_letters m_tape m_position m_number m_now m_tried m_read m_kept m_isKept m_ways m_wins)) (by with_unfolding_all rfl) hb5 ?_
            refine kn_P_steps 4 (f1 := (53, [(5, .int r_t_size), (0, .ref 3), (1, .int p1), (2, .int p2), (3, .int p3), (4, .int p4)], [.int p4, .int r_t_size, .ref 7])) (h1 := (kn_hp L xs (upd r_t_kinds (r_t_size).toNatClampNeg p1) (upd r_t_holds (r_t_size).toNatClampNeg p2) (upd r_t_barred (r_t_size).toNatClampNeg p3) r_t_parties r_t_size r_p_numbers r_p_size r_firms r_tied r_wars r_wet r_day r_drawn k_t_kinds k_t_holds k_t_barred k_t_parties k_t_size k_p_numbers k_p_size k_firms k_tied k_wars k_wet k_day k_drawn f_depths f_bars f_ways d_letters d_t_kinds d_t_holds d_t_barred d_t_parties d_t_size d_size d_at s_lanes s_sizes s_items isKept m_lane m_size m_item m_letters m_tape m_position m_number m_now m_tried m_read m_kept m_isKept m_ways m_wins)) (by with_unfolding_all rfl) ?_
            by_cases hb6 : r_t_size < 0 ∨ 8 ≤ (r_t_size).toNatClampNeg
            · rw [if_pos hb6] at hf; cases hf
            · rw [if_neg hb6] at hf
              refine kn_Q_ok (c := r_t_size < 0 ∨ 8 ≤ (r_t_size).toNatClampNeg) (t := 54) (l1 := [(5, .int r_t_size), (0, .ref 3), (1, .int p1), (2, .int p2), (3, .int p3), (4, .int p4)]) (s1 := []) (h1 := (kn_hp L xs (upd r_t_kinds (r_t_size).toNatClampNeg p1) (upd r_t_holds (r_t_size).toNatClampNeg p2) (upd r_t_barred (r_t_size).toNatClampNeg p3) (upd r_t_parties (r_t_size).toNatClampNeg p4) r_t_size r_p_numbers r_p_size r_firms r_tied r_wars r_wet r_day r_drawn k_t_kinds k_t_holds k_t_barred k_t_parties k_t_size k_p_numbers k_p_size k_firms k_tied k_wars k_wet k_day k_drawn f_depths f_bars f_ways d_letters d_t_kinds d_t_holds d_t_barred d_t_parties d_t_size d_size d_at s_lanes s_sizes s_items isKept m_lane m_size m_item m_letters m_tape m_position m_number m_now m_tried m_read m_kept m_isKept m_ways m_wins)) (by with_unfolding_all rfl) hb6 ?_
              refine kn_P_steps 6 (f1 := (64, [(5, .int r_t_size), (0, .ref 3), (1, .int p1), (2, .int p2), (3, .int p3), (4, .int p4)], [.int r_t_size])) (h1 := (kn_hp L xs (upd r_t_kinds (r_t_size).toNatClampNeg p1) (upd r_t_holds (r_t_size).toNatClampNeg p2) (upd r_t_barred (r_t_size).toNatClampNeg p3) (upd r_t_parties (r_t_size).toNatClampNeg p4) (r_t_size + (1 : Int32)) r_p_numbers r_p_size r_firms r_tied r_wars r_wet r_day r_drawn k_t_kinds k_t_holds k_t_barred k_t_parties k_t_size k_p_numbers k_p_size k_firms k_tied k_wars k_wet k_day k_drawn f_depths f_bars f_ways d_letters d_t_kinds d_t_holds d_t_barred d_t_parties d_t_size d_size d_at s_lanes s_sizes s_items isKept m_lane m_size m_item m_letters m_tape m_position m_number m_now m_tried m_read m_kept m_isKept m_ways m_wins)) (by with_unfolding_all rfl) ?_
              replace hf := Option.some.inj hf
              subst hf
              exact kn_Q_ret (v := some (.int r_t_size)) (by with_unfolding_all rfl) ⟨rfl, rfl⟩
    · rw [if_neg hc2] at hf
      refine kn_P_steps 1 (f1 := (20, [(5, .int r_t_size), (0, .ref 3), (1, .int p1), (2, .int p2), (3, .int p3), (4, .int p4)], [.int (-3 : Int32)])) (h1 := (kn_hp L xs r_t_kinds r_t_holds r_t_barred r_t_parties r_t_size r_p_numbers r_p_size r_firms r_tied r_wars r_wet r_day r_drawn k_t_kinds k_t_holds k_t_barred k_t_parties k_t_size k_p_numbers k_p_size k_firms k_tied k_wars k_wet k_day k_drawn f_depths f_bars f_ways d_letters d_t_kinds d_t_holds d_t_barred d_t_parties d_t_size d_size d_at s_lanes s_sizes s_items isKept m_lane m_size m_item m_letters m_tape m_position m_number m_now m_tried m_read m_kept m_isKept m_ways m_wins)) (by with_unfolding_all rfl) ?_
      replace hf := Option.some.inj hf
      subst hf
      exact kn_Q_ret (v := some (.int (-3 : Int32))) (by with_unfolding_all rfl) ⟨rfl, rfl⟩
set_option maxRecDepth 100000 in
set_option maxHeartbeats 4000000 in
theorem mt_X4_addClause {p1 : Int32} {p2 : Int32} {p3 : Int32} {p4 : Int32} {r9 : Int32 × (Nat → Int32) × (Nat → Int32) × (Nat → Int32) × (Nat → Int32) × Int32 × Int32 × Int32} (hf : f_X4_addClause r_t_kinds r_t_holds r_t_barred r_t_parties r_t_size r_p_size r_tied p1 p2 p3 p4 = some r9) : kn_Post kn_T km_X4_addClause (0, [(0, .ref 2), (1, .int p1), (2, .int p2), (3, .int p3), (4, .int p4)], []) (kn_hp L xs r_t_kinds r_t_holds r_t_barred r_t_parties r_t_size r_p_numbers r_p_size r_firms r_tied r_wars r_wet r_day r_drawn k_t_kinds k_t_holds k_t_barred k_t_parties k_t_size k_p_numbers k_p_size k_firms k_tied k_wars k_wet k_day k_drawn f_depths f_bars f_ways d_letters d_t_kinds d_t_holds d_t_barred d_t_parties d_t_size d_size d_at s_lanes s_sizes s_items isKept m_lane m_size m_item m_letters m_tape m_position m_number m_now m_tried m_read m_kept m_isKept m_ways m_wins) (fun v9 h9 => v9 = some (.int r9.1) ∧ h9 = (kn_hp L xs r9.2.1 r9.2.2.1 r9.2.2.2.1 r9.2.2.2.2.1 r9.2.2.2.2.2.1 r_p_numbers r9.2.2.2.2.2.2.1 r_firms r9.2.2.2.2.2.2.2 r_wars r_wet r_day r_drawn k_t_kinds k_t_holds k_t_barred k_t_parties k_t_size k_p_numbers k_p_size k_firms k_tied k_wars k_wet k_day k_drawn f_depths f_bars f_ways d_letters d_t_kinds d_t_holds d_t_barred d_t_parties d_t_size d_size d_at s_lanes s_sizes s_items isKept m_lane m_size m_item m_letters m_tape m_position m_number m_now m_tried m_read m_kept m_isKept m_ways m_wins)) := by
  unfold f_X4_addClause at hf
  refine kn_P_steps 6 (f1 := (9, [(0, .ref 2), (1, .int p1), (2, .int p2), (3, .int p3), (4, .int p4)], [.int p4, .int p3, .int p2, .int p1, .ref 3])) (h1 := (kn_hp L xs r_t_kinds r_t_holds r_t_barred r_t_parties r_t_size r_p_numbers r_p_size r_firms r_tied r_wars r_wet r_day r_drawn k_t_kinds k_t_holds k_t_barred k_t_parties k_t_size k_p_numbers k_p_size k_firms k_tied k_wars k_wet k_day k_drawn f_depths f_bars f_ways d_letters d_t_kinds d_t_holds d_t_barred d_t_parties d_t_size d_size d_at s_lanes s_sizes s_items isKept m_lane m_size m_item m_letters m_tape m_position m_number m_now m_tried m_read m_kept m_isKept m_ways m_wins)) (by with_unfolding_all rfl) ?_
  cases e1 : f_X0_add r_t_kinds r_t_holds r_t_barred r_t_parties r_t_size p1 p2 p3 p4 with
  | none => rw [e1] at hf; cases hf
  | some q1 =>
    rw [e1] at hf
    dsimp only at hf
    refine kn_Q_call (M1 := km_X0_add) (j := 1) (as := [.ref 3, .int p1, .int p2, .int p3, .int p4]) (f1 := (12, [(0, .ref 2), (1, .int p1), (2, .int p2), (3, .int p3), (4, .int p4)], [])) (f0 := (0, [(0, .ref 3), (1, .int p1), (2, .int p2), (3, .int p3), (4, .int p4)], [])) (by with_unfolding_all rfl) (by with_unfolding_all rfl) (by with_unfolding_all rfl) (mt_X0_add e1) (fun v9 h9 q9 => ?_)
    obtain ⟨rfl, rfl⟩ := q9
    refine kn_P_steps 2 (f1 := (16, [(5, .int q1.1), (0, .ref 2), (1, .int p1), (2, .int p2), (3, .int p3), (4, .int p4)], [.int q1.1])) (h1 := (kn_hp L xs q1.2.1 q1.2.2.1 q1.2.2.2.1 q1.2.2.2.2.1 q1.2.2.2.2.2 r_p_numbers r_p_size r_firms r_tied r_wars r_wet r_day r_drawn k_t_kinds k_t_holds k_t_barred k_t_parties k_t_size k_p_numbers k_p_size k_firms k_tied k_wars k_wet k_day k_drawn f_depths f_bars f_ways d_letters d_t_kinds d_t_holds d_t_barred d_t_parties d_t_size d_size d_at s_lanes s_sizes s_items isKept m_lane m_size m_item m_letters m_tape m_position m_number m_now m_tried m_read m_kept m_isKept m_ways m_wins)) (by with_unfolding_all rfl) ?_
    refine kn_Q_if (c := q1.1 < (0 : Int32)) (t := 40) (n := 19) (l1 := [(5, .int q1.1), (0, .ref 2), (1, .int p1), (2, .int p2), (3, .int p3), (4, .int p4)]) (s1 := []) (by with_unfolding_all rfl) (fun hc2 => ?_) (fun hc2 => ?_)
    · rw [if_pos hc2] at hf
      refine kn_P_steps 1 (f1 := (42, [(5, .int q1.1), (0, .ref 2), (1, .int p1), (2, .int p2), (3, .int p3), (4, .int p4)], [.int q1.1])) (h1 := (kn_hp L xs q1.2.1 q1.2.2.1 q1.2.2.2.1 q1.2.2.2.2.1 q1.2.2.2.2.2 r_p_numbers r_p_size r_firms r_tied r_wars r_wet r_day r_drawn k_t_kinds k_t_holds k_t_barred k_t_parties k_t_size k_p_numbers k_p_size k_firms k_tied k_wars k_wet k_day k_drawn f_depths f_bars f_ways d_letters d_t_kinds d_t_holds d_t_barred d_t_parties d_t_size d_size d_at s_lanes s_sizes s_items isKept m_lane m_size m_item m_letters m_tape m_position m_number m_now m_tried m_read m_kept m_isKept m_ways m_wins)) (by with_unfolding_all rfl) ?_
      replace hf := Option.some.inj hf
      subst hf
      exact kn_Q_ret (v := some (.int q1.1)) (by with_unfolding_all rfl) ⟨rfl, rfl⟩
    · rw [if_neg hc2] at hf
      refine kn_P_steps 13 (f1 := (42, [(5, .int q1.1), (0, .ref 2), (1, .int p1), (2, .int p2), (3, .int p3), (4, .int p4)], [.int q1.1])) (h1 := (kn_hp L xs q1.2.1 q1.2.2.1 q1.2.2.2.1 q1.2.2.2.2.1 q1.2.2.2.2.2 r_p_numbers (0 : Int32) r_firms (r_tied ||| ((1 : Int32) <<< (q1.1 &&& (31 : Int32)))) r_wars r_wet r_day r_drawn k_t_kinds k_t_holds k_t_barred k_t_parties k_t_size k_p_numbers k_p_size k_firms k_tied k_wars k_wet k_day k_drawn f_depths f_bars f_ways d_letters d_t_kinds d_t_holds d_t_barred d_t_parties d_t_size d_size d_at s_lanes s_sizes s_items isKept m_lane m_size m_item m_letters m_tape m_position m_number m_now m_tried m_read m_kept m_isKept m_ways m_wins)) (by with_unfolding_all rfl) ?_
      replace hf := Option.some.inj hf
      subst hf
      exact kn_Q_ret (v := some (.int q1.1)) (by with_unfolding_all rfl) ⟨rfl, rfl⟩
set_option maxRecDepth 100000 in
set_option maxHeartbeats 4000000 in
theorem mt_X6_clause {p1 : Int32} {p2 : Int32} {p3 : Int32} {p4 : Int32} {r9 : Int32 × (Nat → Int32) × (Nat → Int32) × (Nat → Int32) × (Nat → Int32) × Int32 × Int32 × Int32} (hf : f_X6_clause r_t_kinds r_t_holds r_t_barred r_t_parties r_t_size r_p_size r_tied p1 p2 p3 p4 = some r9) : kn_Post kn_T km_X6_clause (0, [(0, .ref 1), (1, .int p1), (2, .int p2), (3, .int p3), (4, .int p4)], []) (kn_hp L xs r_t_kinds r_t_holds r_t_barred r_t_parties r_t_size r_p_numbers r_p_size r_firms r_tied r_wars r_wet r_day r_drawn k_t_kinds k_t_holds k_t_barred k_t_parties k_t_size k_p_numbers k_p_size k_firms k_tied k_wars k_wet k_day k_drawn f_depths f_bars f_ways d_letters d_t_kinds d_t_holds d_t_barred d_t_parties d_t_size d_size d_at s_lanes s_sizes s_items isKept m_lane m_size m_item m_letters m_tape m_position m_number m_now m_tried m_read m_kept m_isKept m_ways m_wins) (fun v9 h9 => v9 = some (.int r9.1) ∧ h9 = (kn_hp L xs r9.2.1 r9.2.2.1 r9.2.2.2.1 r9.2.2.2.2.1 r9.2.2.2.2.2.1 r_p_numbers r9.2.2.2.2.2.2.1 r_firms r9.2.2.2.2.2.2.2 r_wars r_wet r_day r_drawn k_t_kinds k_t_holds k_t_barred k_t_parties k_t_size k_p_numbers k_p_size k_firms k_tied k_wars k_wet k_day k_drawn f_depths f_bars f_ways d_letters d_t_kinds d_t_holds d_t_barred d_t_parties d_t_size d_size d_at s_lanes s_sizes s_items isKept m_lane m_size m_item m_letters m_tape m_position m_number m_now m_tried m_read m_kept m_isKept m_ways m_wins)) := by
  unfold f_X6_clause at hf
  refine kn_P_steps 3 (f1 := (3, [(0, .ref 1), (1, .int p1), (2, .int p2), (3, .int p3), (4, .int p4)], [.int (4 : Int32), .int (0 : Int32), .int p1])) (h1 := (kn_hp L xs r_t_kinds r_t_holds r_t_barred r_t_parties r_t_size r_p_numbers r_p_size r_firms r_tied r_wars r_wet r_day r_drawn k_t_kinds k_t_holds k_t_barred k_t_parties k_t_size k_p_numbers k_p_size k_firms k_tied k_wars k_wet k_day k_drawn f_depths f_bars f_ways d_letters d_t_kinds d_t_holds d_t_barred d_t_parties d_t_size d_size d_at s_lanes s_sizes s_items isKept m_lane m_size m_item m_letters m_tape m_position m_number m_now m_tried m_read m_kept m_isKept m_ways m_wins)) (by with_unfolding_all rfl) ?_
  refine kn_Q_call (M1 := km_X6_isWithin) (j := 91) (as := [.int p1, .int (0 : Int32), .int (4 : Int32)]) (f1 := (6, [(0, .ref 1), (1, .int p1), (2, .int p2), (3, .int p3), (4, .int p4)], [])) (f0 := (0, [(0, .int p1), (1, .int (0 : Int32)), (2, .int (4 : Int32))], [])) (by with_unfolding_all rfl) (by with_unfolding_all rfl) (by with_unfolding_all rfl) (mt_X6_isWithin rfl) (fun v9 h9 q9 => ?_)
  obtain ⟨rfl, rfl, hz1⟩ := q9
  refine kn_Q_if (c := (f_X6_isWithin p1 (0 : Int32) (4 : Int32)) = (0 : Int32)) (t := 19) (n := 9) (l1 := [(0, .ref 1), (1, .int p1), (2, .int p2), (3, .int p3), (4, .int p4)]) (s1 := []) (by with_unfolding_all rfl) (fun hc2 => ?_) (fun hc2 => ?_)
  · rw [if_pos hc2] at hf
    refine kn_P_steps 1 (f1 := (20, [(0, .ref 1), (1, .int p1), (2, .int p2), (3, .int p3), (4, .int p4)], [.int (-1 : Int32)])) (h1 := (kn_hp L xs r_t_kinds r_t_holds r_t_barred r_t_parties r_t_size r_p_numbers r_p_size r_firms r_tied r_wars r_wet r_day r_drawn k_t_kinds k_t_holds k_t_barred k_t_parties k_t_size k_p_numbers k_p_size k_firms k_tied k_wars k_wet k_day k_drawn f_depths f_bars f_ways d_letters d_t_kinds d_t_holds d_t_barred d_t_parties d_t_size d_size d_at s_lanes s_sizes s_items isKept m_lane m_size m_item m_letters m_tape m_position m_number m_now m_tried m_read m_kept m_isKept m_ways m_wins)) (by with_unfolding_all rfl) ?_
    replace hf := Option.some.inj hf
    subst hf
    exact kn_Q_ret (v := some (.int (-1 : Int32))) (by with_unfolding_all rfl) ⟨rfl, rfl⟩
  · rw [if_neg hc2] at hf
    refine kn_P_steps 3 (f1 := (13, [(0, .ref 1), (1, .int p1), (2, .int p2), (3, .int p3), (4, .int p4)], [.int (20 : Int32), .int (1 : Int32), .int p2])) (h1 := (kn_hp L xs r_t_kinds r_t_holds r_t_barred r_t_parties r_t_size r_p_numbers r_p_size r_firms r_tied r_wars r_wet r_day r_drawn k_t_kinds k_t_holds k_t_barred k_t_parties k_t_size k_p_numbers k_p_size k_firms k_tied k_wars k_wet k_day k_drawn f_depths f_bars f_ways d_letters d_t_kinds d_t_holds d_t_barred d_t_parties d_t_size d_size d_at s_lanes s_sizes s_items isKept m_lane m_size m_item m_letters m_tape m_position m_number m_now m_tried m_read m_kept m_isKept m_ways m_wins)) (by with_unfolding_all rfl) ?_
    refine kn_Q_call (M1 := km_X6_isWithin) (j := 91) (as := [.int p2, .int (1 : Int32), .int (20 : Int32)]) (f1 := (16, [(0, .ref 1), (1, .int p1), (2, .int p2), (3, .int p3), (4, .int p4)], [])) (f0 := (0, [(0, .int p2), (1, .int (1 : Int32)), (2, .int (20 : Int32))], [])) (by with_unfolding_all rfl) (by with_unfolding_all rfl) (by with_unfolding_all rfl) (mt_X6_isWithin rfl) (fun v9 h9 q9 => ?_)
    obtain ⟨rfl, rfl, hz3⟩ := q9
    refine kn_Q_if (c := (f_X6_isWithin p2 (1 : Int32) (20 : Int32)) = (0 : Int32)) (t := 19) (n := 21) (l1 := [(0, .ref 1), (1, .int p1), (2, .int p2), (3, .int p3), (4, .int p4)]) (s1 := []) (by with_unfolding_all rfl) (fun hc4 => ?_) (fun hc4 => ?_)
    · rw [if_pos hc4] at hf
      refine kn_P_steps 1 (f1 := (20, [(0, .ref 1), (1, .int p1), (2, .int p2), (3, .int p3), (4, .int p4)], [.int (-1 : Int32)])) (h1 := (kn_hp L xs r_t_kinds r_t_holds r_t_barred r_t_parties r_t_size r_p_numbers r_p_size r_firms r_tied r_wars r_wet r_day r_drawn k_t_kinds k_t_holds k_t_barred k_t_parties k_t_size k_p_numbers k_p_size k_firms k_tied k_wars k_wet k_day k_drawn f_depths f_bars f_ways d_letters d_t_kinds d_t_holds d_t_barred d_t_parties d_t_size d_size d_at s_lanes s_sizes s_items isKept m_lane m_size m_item m_letters m_tape m_position m_number m_now m_tried m_read m_kept m_isKept m_ways m_wins)) (by with_unfolding_all rfl) ?_
      replace hf := Option.some.inj hf
      subst hf
      exact kn_Q_ret (v := some (.int (-1 : Int32))) (by with_unfolding_all rfl) ⟨rfl, rfl⟩
    · rw [if_neg hc4] at hf
      refine kn_P_steps 10 (f1 := (37, [(0, .ref 1), (1, .int p1), (2, .int p2), (3, .int p3), (4, .int p4)], [.int (((1 : Int32) <<< (r_t_size &&& (31 : Int32))) - (1 : Int32)), .int (0 : Int32), .int p3])) (h1 := (kn_hp L xs r_t_kinds r_t_holds r_t_barred r_t_parties r_t_size r_p_numbers r_p_size r_firms r_tied r_wars r_wet r_day r_drawn k_t_kinds k_t_holds k_t_barred k_t_parties k_t_size k_p_numbers k_p_size k_firms k_tied k_wars k_wet k_day k_drawn f_depths f_bars f_ways d_letters d_t_kinds d_t_holds d_t_barred d_t_parties d_t_size d_size d_at s_lanes s_sizes s_items isKept m_lane m_size m_item m_letters m_tape m_position m_number m_now m_tried m_read m_kept m_isKept m_ways m_wins)) (by with_unfolding_all rfl) ?_
      refine kn_Q_call (M1 := km_X6_isWithin) (j := 91) (as := [.int p3, .int (0 : Int32), .int (((1 : Int32) <<< (r_t_size &&& (31 : Int32))) - (1 : Int32))]) (f1 := (40, [(0, .ref 1), (1, .int p1), (2, .int p2), (3, .int p3), (4, .int p4)], [])) (f0 := (0, [(0, .int p3), (1, .int (0 : Int32)), (2, .int (((1 : Int32) <<< (r_t_size &&& (31 : Int32))) - (1 : Int32)))], [])) (by with_unfolding_all rfl) (by with_unfolding_all rfl) (by with_unfolding_all rfl) (mt_X6_isWithin rfl) (fun v9 h9 q9 => ?_)
      obtain ⟨rfl, rfl, hz5⟩ := q9
      refine kn_Q_if (c := (f_X6_isWithin p3 (0 : Int32) (((1 : Int32) <<< (r_t_size &&& (31 : Int32))) - (1 : Int32))) = (0 : Int32)) (t := 51) (n := 43) (l1 := [(0, .ref 1), (1, .int p1), (2, .int p2), (3, .int p3), (4, .int p4)]) (s1 := []) (by with_unfolding_all rfl) (fun hc6 => ?_) (fun hc6 => ?_)
      · rw [if_pos hc6] at hf
        refine kn_P_steps 1 (f1 := (52, [(0, .ref 1), (1, .int p1), (2, .int p2), (3, .int p3), (4, .int p4)], [.int (-1 : Int32)])) (h1 := (kn_hp L xs r_t_kinds r_t_holds r_t_barred r_t_parties r_t_size r_p_numbers r_p_size r_firms r_tied r_wars r_wet r_day r_drawn k_t_kinds k_t_holds k_t_barred k_t_parties k_t_size k_p_numbers k_p_size k_firms k_tied k_wars k_wet k_day k_drawn f_depths f_bars f_ways d_letters d_t_kinds d_t_holds d_t_barred d_t_parties d_t_size d_size d_at s_lanes s_sizes s_items isKept m_lane m_size m_item m_letters m_tape m_position m_number m_now m_tried m_read m_kept m_isKept m_ways m_wins)) (by with_unfolding_all rfl) ?_
        replace hf := Option.some.inj hf
        subst hf
        exact kn_Q_ret (v := some (.int (-1 : Int32))) (by with_unfolding_all rfl) ⟨rfl, rfl⟩
      · rw [if_neg hc6] at hf
        refine kn_P_steps 1 (f1 := (45, [(0, .ref 1), (1, .int p1), (2, .int p2), (3, .int p3), (4, .int p4)], [.int p4])) (h1 := (kn_hp L xs r_t_kinds r_t_holds r_t_barred r_t_parties r_t_size r_p_numbers r_p_size r_firms r_tied r_wars r_wet r_day r_drawn k_t_kinds k_t_holds k_t_barred k_t_parties k_t_size k_p_numbers k_p_size k_firms k_tied k_wars k_wet k_day k_drawn f_depths f_bars f_ways d_letters d_t_kinds d_t_holds d_t_barred d_t_parties d_t_size d_size d_at s_lanes s_sizes s_items isKept m_lane m_size m_item m_letters m_tape m_position m_number m_now m_tried m_read m_kept m_isKept m_ways m_wins)) (by with_unfolding_all rfl) ?_
        refine kn_Q_call (M1 := km_X6_isParty) (j := 93) (as := [.int p4]) (f1 := (48, [(0, .ref 1), (1, .int p1), (2, .int p2), (3, .int p3), (4, .int p4)], [])) (f0 := (0, [(0, .int p4)], [])) (by with_unfolding_all rfl) (by with_unfolding_all rfl) (by with_unfolding_all rfl) (mt_X6_isParty rfl) (fun v9 h9 q9 => ?_)
        obtain ⟨rfl, rfl, hz7⟩ := q9
        refine kn_Q_if (c := (f_X6_isParty p4) = (0 : Int32)) (t := 51) (n := 53) (l1 := [(0, .ref 1), (1, .int p1), (2, .int p2), (3, .int p3), (4, .int p4)]) (s1 := []) (by with_unfolding_all rfl) (fun hc8 => ?_) (fun hc8 => ?_)
        · rw [if_pos hc8] at hf
          refine kn_P_steps 1 (f1 := (52, [(0, .ref 1), (1, .int p1), (2, .int p2), (3, .int p3), (4, .int p4)], [.int (-1 : Int32)])) (h1 := (kn_hp L xs r_t_kinds r_t_holds r_t_barred r_t_parties r_t_size r_p_numbers r_p_size r_firms r_tied r_wars r_wet r_day r_drawn k_t_kinds k_t_holds k_t_barred k_t_parties k_t_size k_p_numbers k_p_size k_firms k_tied k_wars k_wet k_day k_drawn f_depths f_bars f_ways d_letters d_t_kinds d_t_holds d_t_barred d_t_parties d_t_size d_size d_at s_lanes s_sizes s_items isKept m_lane m_size m_item m_letters m_tape m_position m_number m_now m_tried m_read m_kept m_isKept m_ways m_wins)) (by with_unfolding_all rfl) ?_
          replace hf := Option.some.inj hf
          subst hf
          exact kn_Q_ret (v := some (.int (-1 : Int32))) (by with_unfolding_all rfl) ⟨rfl, rfl⟩
        · rw [if_neg hc8] at hf
          refine kn_P_steps 5 (f1 := (65, [(0, .ref 1), (1, .int p1), (2, .int p2), (3, .int p3), (4, .int p4)], [.int (8 : Int32), .int r_t_size])) (h1 := (kn_hp L xs r_t_kinds r_t_holds r_t_barred r_t_parties r_t_size r_p_numbers r_p_size r_firms r_tied r_wars r_wet r_day r_drawn k_t_kinds k_t_holds k_t_barred k_t_parties k_t_size k_p_numbers k_p_size k_firms k_tied k_wars k_wet k_day k_drawn f_depths f_bars f_ways d_letters d_t_kinds d_t_holds d_t_barred d_t_parties d_t_size d_size d_at s_lanes s_sizes s_items isKept m_lane m_size m_item m_letters m_tape m_position m_number m_now m_tried m_read m_kept m_isKept m_ways m_wins)) (by with_unfolding_all rfl) ?_
          refine kn_Q_if (c := r_t_size < (8 : Int32)) (t := 71) (n := 68) (l1 := [(0, .ref 1), (1, .int p1), (2, .int p2), (3, .int p3), (4, .int p4)]) (s1 := []) (by with_unfolding_all rfl) (fun hc9 => ?_) (fun hc9 => ?_)
          · rw [if_pos hc9] at hf
            refine kn_P_steps 6 (f1 := (80, [(0, .ref 1), (1, .int p1), (2, .int p2), (3, .int p3), (4, .int p4)], [.int p4, .int p3, .int p2, .int p1, .ref 2])) (h1 := (kn_hp L xs r_t_kinds r_t_holds r_t_barred r_t_parties r_t_size r_p_numbers r_p_size r_firms r_tied r_wars r_wet r_day r_drawn k_t_kinds k_t_holds k_t_barred k_t_parties k_t_size k_p_numbers k_p_size k_firms k_tied k_wars k_wet k_day k_drawn f_depths f_bars f_ways d_letters d_t_kinds d_t_holds d_t_barred d_t_parties d_t_size d_size d_at s_lanes s_sizes s_items isKept m_lane m_size m_item m_letters m_tape m_position m_number m_now m_tried m_read m_kept m_isKept m_ways m_wins)) (by with_unfolding_all rfl) ?_
            cases e10 : f_X4_addClause r_t_kinds r_t_holds r_t_barred r_t_parties r_t_size r_p_size r_tied p1 p2 p3 p4 with
            | none => rw [e10] at hf; cases hf
            | some q1 =>
              rw [e10] at hf
              dsimp only at hf
              refine kn_Q_call (M1 := km_X4_addClause) (j := 29) (as := [.ref 2, .int p1, .int p2, .int p3, .int p4]) (f1 := (83, [(0, .ref 1), (1, .int p1), (2, .int p2), (3, .int p3), (4, .int p4)], [])) (f0 := (0, [(0, .ref 2), (1, .int p1), (2, .int p2), (3, .int p3), (4, .int p4)], [])) (by with_unfolding_all rfl) (by with_unfolding_all rfl) (by with_unfolding_all rfl) (mt_X4_addClause e10) (fun v9 h9 q9 => ?_)
              obtain ⟨rfl, rfl⟩ := q9
              replace hf := Option.some.inj hf
              subst hf
              exact kn_Q_ret (v := some (.int q1.1)) (by with_unfolding_all rfl) ⟨rfl, rfl⟩
          · rw [if_neg hc9] at hf
            refine kn_P_steps 1 (f1 := (70, [(0, .ref 1), (1, .int p1), (2, .int p2), (3, .int p3), (4, .int p4)], [.int (-3 : Int32)])) (h1 := (kn_hp L xs r_t_kinds r_t_holds r_t_barred r_t_parties r_t_size r_p_numbers r_p_size r_firms r_tied r_wars r_wet r_day r_drawn k_t_kinds k_t_holds k_t_barred k_t_parties k_t_size k_p_numbers k_p_size k_firms k_tied k_wars k_wet k_day k_drawn f_depths f_bars f_ways d_letters d_t_kinds d_t_holds d_t_barred d_t_parties d_t_size d_size d_at s_lanes s_sizes s_items isKept m_lane m_size m_item m_letters m_tape m_position m_number m_now m_tried m_read m_kept m_isKept m_ways m_wins)) (by with_unfolding_all rfl) ?_
            replace hf := Option.some.inj hf
            subst hf
            exact kn_Q_ret (v := some (.int (-3 : Int32))) (by with_unfolding_all rfl) ⟨rfl, rfl⟩
set_option maxRecDepth 100000 in
set_option maxHeartbeats 4000000 in
theorem mt_X7_in {p0 : Int32} {p1 : Int32} {p2 : Int32} {r9 : Int32} (hf : f_X7_in p0 p1 p2 = r9) : kn_Post kn_T km_X7_in (0, [(0, .int p0), (1, .int p1), (2, .int p2)], []) (kn_hp L xs r_t_kinds r_t_holds r_t_barred r_t_parties r_t_size r_p_numbers r_p_size r_firms r_tied r_wars r_wet r_day r_drawn k_t_kinds k_t_holds k_t_barred k_t_parties k_t_size k_p_numbers k_p_size k_firms k_tied k_wars k_wet k_day k_drawn f_depths f_bars f_ways d_letters d_t_kinds d_t_holds d_t_barred d_t_parties d_t_size d_size d_at s_lanes s_sizes s_items isKept m_lane m_size m_item m_letters m_tape m_position m_number m_now m_tried m_read m_kept m_isKept m_ways m_wins) (fun v9 h9 => v9 = some (.int r9) ∧ h9 = (kn_hp L xs r_t_kinds r_t_holds r_t_barred r_t_parties r_t_size r_p_numbers r_p_size r_firms r_tied r_wars r_wet r_day r_drawn k_t_kinds k_t_holds k_t_barred k_t_parties k_t_size k_p_numbers k_p_size k_firms k_tied k_wars k_wet k_day k_drawn f_depths f_bars f_ways d_letters d_t_kinds d_t_holds d_t_barred d_t_parties d_t_size d_size d_at s_lanes s_sizes s_items isKept m_lane m_size m_item m_letters m_tape m_position m_number m_now m_tried m_read m_kept m_isKept m_ways m_wins) ∧ (r9 = 0 ∨ r9 = 1)) := by
  unfold f_X7_in at hf
  refine kn_P_steps 2 (f1 := (2, [(0, .int p0), (1, .int p1), (2, .int p2)], [.int p1, .int p0])) (h1 := (kn_hp L xs r_t_kinds r_t_holds r_t_barred r_t_parties r_t_size r_p_numbers r_p_size r_firms r_tied r_wars r_wet r_day r_drawn k_t_kinds k_t_holds k_t_barred k_t_parties k_t_size k_p_numbers k_p_size k_firms k_tied k_wars k_wet k_day k_drawn f_depths f_bars f_ways d_letters d_t_kinds d_t_holds d_t_barred d_t_parties d_t_size d_size d_at s_lanes s_sizes s_items isKept m_lane m_size m_item m_letters m_tape m_position m_number m_now m_tried m_read m_kept m_isKept m_ways m_wins)) (by with_unfolding_all rfl) ?_
  refine kn_Q_if (c := p0 < p1) (t := 14) (n := 5) (l1 := [(0, .int p0), (1, .int p1), (2, .int p2)]) (s1 := []) (by with_unfolding_all rfl) (fun hc1 => ?_) (fun hc1 => ?_)
  · rw [if_pos hc1] at hf
    refine kn_P_steps 1 (f1 := (15, [(0, .int p0), (1, .int p1), (2, .int p2)], [.int (0 : Int32)])) (h1 := (kn_hp L xs r_t_kinds r_t_holds r_t_barred r_t_parties r_t_size r_p_numbers r_p_size r_firms r_tied r_wars r_wet r_day r_drawn k_t_kinds k_t_holds k_t_barred k_t_parties k_t_size k_p_numbers k_p_size k_firms k_tied k_wars k_wet k_day k_drawn f_depths f_bars f_ways d_letters d_t_kinds d_t_holds d_t_barred d_t_parties d_t_size d_size d_at s_lanes s_sizes s_items isKept m_lane m_size m_item m_letters m_tape m_position m_number m_now m_tried m_read m_kept m_isKept m_ways m_wins)) (by with_unfolding_all rfl) ?_
    subst hf
    exact kn_Q_ret (v := some (.int (0 : Int32))) (by with_unfolding_all rfl) ⟨rfl, rfl, Or.inl rfl⟩
  · rw [if_neg hc1] at hf
    refine kn_P_steps 2 (f1 := (7, [(0, .int p0), (1, .int p1), (2, .int p2)], [.int p2, .int p0])) (h1 := (kn_hp L xs r_t_kinds r_t_holds r_t_barred r_t_parties r_t_size r_p_numbers r_p_size r_firms r_tied r_wars r_wet r_day r_drawn k_t_kinds k_t_holds k_t_barred k_t_parties k_t_size k_p_numbers k_p_size k_firms k_tied k_wars k_wet k_day k_drawn f_depths f_bars f_ways d_letters d_t_kinds d_t_holds d_t_barred d_t_parties d_t_size d_size d_at s_lanes s_sizes s_items isKept m_lane m_size m_item m_letters m_tape m_position m_number m_now m_tried m_read m_kept m_isKept m_ways m_wins)) (by with_unfolding_all rfl) ?_
    refine kn_Q_if (c := p2 < p0) (t := 14) (n := 10) (l1 := [(0, .int p0), (1, .int p1), (2, .int p2)]) (s1 := []) (by with_unfolding_all rfl) (fun hc2 => ?_) (fun hc2 => ?_)
    · rw [if_pos hc2] at hf
      refine kn_P_steps 1 (f1 := (15, [(0, .int p0), (1, .int p1), (2, .int p2)], [.int (0 : Int32)])) (h1 := (kn_hp L xs r_t_kinds r_t_holds r_t_barred r_t_parties r_t_size r_p_numbers r_p_size r_firms r_tied r_wars r_wet r_day r_drawn k_t_kinds k_t_holds k_t_barred k_t_parties k_t_size k_p_numbers k_p_size k_firms k_tied k_wars k_wet k_day k_drawn f_depths f_bars f_ways d_letters d_t_kinds d_t_holds d_t_barred d_t_parties d_t_size d_size d_at s_lanes s_sizes s_items isKept m_lane m_size m_item m_letters m_tape m_position m_number m_now m_tried m_read m_kept m_isKept m_ways m_wins)) (by with_unfolding_all rfl) ?_
      subst hf
      exact kn_Q_ret (v := some (.int (0 : Int32))) (by with_unfolding_all rfl) ⟨rfl, rfl, Or.inl rfl⟩
    · rw [if_neg hc2] at hf
      refine kn_P_steps 2 (f1 := (15, [(0, .int p0), (1, .int p1), (2, .int p2)], [.int (1 : Int32)])) (h1 := (kn_hp L xs r_t_kinds r_t_holds r_t_barred r_t_parties r_t_size r_p_numbers r_p_size r_firms r_tied r_wars r_wet r_day r_drawn k_t_kinds k_t_holds k_t_barred k_t_parties k_t_size k_p_numbers k_p_size k_firms k_tied k_wars k_wet k_day k_drawn f_depths f_bars f_ways d_letters d_t_kinds d_t_holds d_t_barred d_t_parties d_t_size d_size d_at s_lanes s_sizes s_items isKept m_lane m_size m_item m_letters m_tape m_position m_number m_now m_tried m_read m_kept m_isKept m_ways m_wins)) (by with_unfolding_all rfl) ?_
      subst hf
      exact kn_Q_ret (v := some (.int (1 : Int32))) (by with_unfolding_all rfl) ⟨rfl, rfl, Or.inr rfl⟩
set_option maxRecDepth 100000 in
set_option maxHeartbeats 4000000 in
theorem mt_X7_add {p1 : Int32} {p2 : Int32} {p3 : Int32} {p4 : Int32} {r9 : Int32 × (Nat → Int32)} (hf : f_X7_add m_now p1 p2 p3 p4 = some r9) : kn_Post kn_T km_X7_add (0, [(0, .ref 40), (1, .int p1), (2, .int p2), (3, .int p3), (4, .int p4)], []) (kn_hp L xs r_t_kinds r_t_holds r_t_barred r_t_parties r_t_size r_p_numbers r_p_size r_firms r_tied r_wars r_wet r_day r_drawn k_t_kinds k_t_holds k_t_barred k_t_parties k_t_size k_p_numbers k_p_size k_firms k_tied k_wars k_wet k_day k_drawn f_depths f_bars f_ways d_letters d_t_kinds d_t_holds d_t_barred d_t_parties d_t_size d_size d_at s_lanes s_sizes s_items isKept m_lane m_size m_item m_letters m_tape m_position m_number m_now m_tried m_read m_kept m_isKept m_ways m_wins) (fun v9 h9 => v9 = some (.int r9.1) ∧ h9 = (kn_hp L xs r_t_kinds r_t_holds r_t_barred r_t_parties r_t_size r_p_numbers r_p_size r_firms r_tied r_wars r_wet r_day r_drawn k_t_kinds k_t_holds k_t_barred k_t_parties k_t_size k_p_numbers k_p_size k_firms k_tied k_wars k_wet k_day k_drawn f_depths f_bars f_ways d_letters d_t_kinds d_t_holds d_t_barred d_t_parties d_t_size d_size d_at s_lanes s_sizes s_items isKept m_lane m_size m_item m_letters m_tape m_position m_number r9.2 m_tried m_read m_kept m_isKept m_ways m_wins)) := by
  unfold f_X7_add at hf
  refine kn_P_steps 9 (f1 := (12, [(5, .int (m_now 5)), (0, .ref 40), (1, .int p1), (2, .int p2), (3, .int p3), (4, .int p4)], [.int p1, .int ((6 : Int32) + (m_now 5)), .ref 40])) (h1 := (kn_hp L xs r_t_kinds r_t_holds r_t_barred r_t_parties r_t_size r_p_numbers r_p_size r_firms r_tied r_wars r_wet r_day r_drawn k_t_kinds k_t_holds k_t_barred k_t_parties k_t_size k_p_numbers k_p_size k_firms k_tied k_wars k_wet k_day k_drawn f_depths f_bars f_ways d_letters d_t_kinds d_t_holds d_t_barred d_t_parties d_t_size d_size d_at s_lanes s_sizes s_items isKept m_lane m_size m_item m_letters m_tape m_position m_number m_now m_tried m_read m_kept m_isKept m_ways m_wins)) (by with_unfolding_all rfl) ?_
  by_cases hb1 : ((6 : Int32) + (m_now 5)) < 0 ∨ 79 ≤ (((6 : Int32) + (m_now 5))).toNatClampNeg
  · rw [if_pos hb1] at hf; cases hf
  · rw [if_neg hb1] at hf
    refine kn_Q_ok (c := ((6 : Int32) + (m_now 5)) < 0 ∨ 79 ≤ (((6 : Int32) + (m_now 5))).toNatClampNeg) (t := 13) (l1 := [(5, .int (m_now 5)), (0, .ref 40), (1, .int p1), (2, .int p2), (3, .int p3), (4, .int p4)]) (s1 := []) (h1 := (kn_hp L xs r_t_kinds r_t_holds r_t_barred r_t_parties r_t_size r_p_numbers r_p_size r_firms r_tied r_wars r_wet r_day r_drawn k_t_kinds k_t_holds k_t_barred k_t_parties k_t_size k_p_numbers k_p_size k_firms k_tied k_wars k_wet k_day k_drawn f_depths f_bars f_ways d_letters d_t_kinds d_t_holds d_t_barred d_t_parties d_t_size d_size d_at s_lanes s_sizes s_items isKept m_lane m_size m_item m_letters m_tape m_position m_number (upd m_now (((6 : Int32) + (m_now 5))).toNatClampNeg p1) m_tried m_read m_kept m_isKept m_ways m_wins)) (by with_unfolding_all rfl) hb1 ?_
    refine kn_P_steps 5 (f1 := (20, [(5, .int (m_now 5)), (0, .ref 40), (1, .int p1), (2, .int p2), (3, .int p3), (4, .int p4)], [.int p2, .int ((14 : Int32) + (m_now 5)), .ref 40])) (h1 := (kn_hp L xs r_t_kinds r_t_holds r_t_barred r_t_parties r_t_size r_p_numbers r_p_size r_firms r_tied r_wars r_wet r_day r_drawn k_t_kinds k_t_holds k_t_barred k_t_parties k_t_size k_p_numbers k_p_size k_firms k_tied k_wars k_wet k_day k_drawn f_depths f_bars f_ways d_letters d_t_kinds d_t_holds d_t_barred d_t_parties d_t_size d_size d_at s_lanes s_sizes s_items isKept m_lane m_size m_item m_letters m_tape m_position m_number (upd m_now (((6 : Int32) + (m_now 5))).toNatClampNeg p1) m_tried m_read m_kept m_isKept m_ways m_wins)) (by with_unfolding_all rfl) ?_
    by_cases hb2 : ((14 : Int32) + (m_now 5)) < 0 ∨ 79 ≤ (((14 : Int32) + (m_now 5))).toNatClampNeg
    · rw [if_pos hb2] at hf; cases hf
    · rw [if_neg hb2] at hf
      refine kn_Q_ok (c := ((14 : Int32) + (m_now 5)) < 0 ∨ 79 ≤ (((14 : Int32) + (m_now 5))).toNatClampNeg) (t := 21) (l1 := [(5, .int (m_now 5)), (0, .ref 40), (1, .int p1), (2, .int p2), (3, .int p3), (4, .int p4)]) (s1 := []) (h1 := (kn_hp L xs r_t_kinds r_t_holds r_t_barred r_t_parties r_t_size r_p_numbers r_p_size r_firms r_tied r_wars r_wet r_day r_drawn k_t_kinds k_t_holds k_t_barred k_t_parties k_t_size k_p_numbers k_p_size k_firms k_tied k_wars k_wet k_day k_drawn f_depths f_bars f_ways d_letters d_t_kinds d_t_holds d_t_barred d_t_parties d_t_size d_size d_at s_lanes s_sizes s_items isKept m_lane m_size m_item m_letters m_tape m_position m_number (upd (upd m_now (((6 : Int32) + (m_now 5))).toNatClampNeg p1) (((14 : Int32) + (m_now 5))).toNatClampNeg p2) m_tried m_read m_kept m_isKept m_ways m_wins)) (by with_unfolding_all rfl) hb2 ?_
      refine kn_P_steps 5 (f1 := (28, [(5, .int (m_now 5)), (0, .ref 40), (1, .int p1), (2, .int p2), (3, .int p3), (4, .int p4)], [.int p3, .int ((22 : Int32) + (m_now 5)), .ref 40])) (h1 := (kn_hp L xs r_t_kinds r_t_holds r_t_barred r_t_parties r_t_size r_p_numbers r_p_size r_firms r_tied r_wars r_wet r_day r_drawn k_t_kinds k_t_holds k_t_barred k_t_parties k_t_size k_p_numbers k_p_size k_firms k_tied k_wars k_wet k_day k_drawn f_depths f_bars f_ways d_letters d_t_kinds d_t_holds d_t_barred d_t_parties d_t_size d_size d_at s_lanes s_sizes s_items isKept m_lane m_size m_item m_letters m_tape m_position m_number (upd (upd m_now (((6 : Int32) + (m_now 5))).toNatClampNeg p1) (((14 : Int32) + (m_now 5))).toNatClampNeg p2) m_tried m_read m_kept m_isKept m_ways m_wins)) (by with_unfolding_all rfl) ?_
      by_cases hb3 : ((22 : Int32) + (m_now 5)) < 0 ∨ 79 ≤ (((22 : Int32) + (m_now 5))).toNatClampNeg
      · rw [if_pos hb3] at hf; cases hf
      · rw [if_neg hb3] at hf
        refine kn_Q_ok (c := ((22 : Int32) + (m_now 5)) < 0 ∨ 79 ≤ (((22 : Int32) + (m_now 5))).toNatClampNeg) (t := 29) (l1 := [(5, .int (m_now 5)), (0, .ref 40), (1, .int p1), (2, .int p2), (3, .int p3), (4, .int p4)]) (s1 := []) (h1 := (kn_hp L xs r_t_kinds r_t_holds r_t_barred r_t_parties r_t_size r_p_numbers r_p_size r_firms r_tied r_wars r_wet r_day r_drawn k_t_kinds k_t_holds k_t_barred k_t_parties k_t_size k_p_numbers k_p_size k_firms k_tied k_wars k_wet k_day k_drawn f_depths f_bars f_ways d_letters d_t_kinds d_t_holds d_t_barred d_t_parties d_t_size d_size d_at s_lanes s_sizes s_items isKept m_lane m_size m_item m_letters m_tape m_position m_number (upd (upd (upd m_now (((6 : Int32) + (m_now 5))).toNatClampNeg p1) (((14 : Int32) + (m_now 5))).toNatClampNeg p2) (((22 : Int32) + (m_now 5))).toNatClampNeg p3) m_tried m_read m_kept m_isKept m_ways m_wins)) (by with_unfolding_all rfl) hb3 ?_
        refine kn_P_steps 5 (f1 := (37, [(5, .int (m_now 5)), (0, .ref 40), (1, .int p1), (2, .int p2), (3, .int p3), (4, .int p4)], [.int p4, .int ((30 : Int32) + (m_now 5)), .ref 40])) (h1 := (kn_hp L xs r_t_kinds r_t_holds r_t_barred r_t_parties r_t_size r_p_numbers r_p_size r_firms r_tied r_wars r_wet r_day r_drawn k_t_kinds k_t_holds k_t_barred k_t_parties k_t_size k_p_numbers k_p_size k_firms k_tied k_wars k_wet k_day k_drawn f_depths f_bars f_ways d_letters d_t_kinds d_t_holds d_t_barred d_t_parties d_t_size d_size d_at s_lanes s_sizes s_items isKept m_lane m_size m_item m_letters m_tape m_position m_number (upd (upd (upd m_now (((6 : Int32) + (m_now 5))).toNatClampNeg p1) (((14 : Int32) + (m_now 5))).toNatClampNeg p2) (((22 : Int32) + (m_now 5))).toNatClampNeg p3) m_tried m_read m_kept m_isKept m_ways m_wins)) (by with_unfolding_all rfl) ?_
        by_cases hb4 : ((30 : Int32) + (m_now 5)) < 0 ∨ 79 ≤ (((30 : Int32) + (m_now 5))).toNatClampNeg
        · rw [if_pos hb4] at hf; cases hf
        · rw [if_neg hb4] at hf
          refine kn_Q_ok (c := ((30 : Int32) + (m_now 5)) < 0 ∨ 79 ≤ (((30 : Int32) + (m_now 5))).toNatClampNeg) (t := 38) (l1 := [(5, .int (m_now 5)), (0, .ref 40), (1, .int p1), (2, .int p2), (3, .int p3), (4, .int p4)]) (s1 := []) (h1 := (kn_hp L xs r_t_kinds r_t_holds r_t_barred r_t_parties r_t_size r_p_numbers r_p_size r_firms r_tied r_wars r_wet r_day r_drawn k_t_kinds k_t_holds k_t_barred k_t_parties k_t_size k_p_numbers k_p_size k_firms k_tied k_wars k_wet k_day k_drawn f_depths f_bars f_ways d_letters d_t_kinds d_t_holds d_t_barred d_t_parties d_t_size d_size d_at s_lanes s_sizes s_items isKept m_lane m_size m_item m_letters m_tape m_position m_number (upd (upd (upd (upd m_now (((6 : Int32) + (m_now 5))).toNatClampNeg p1) (((14 : Int32) + (m_now 5))).toNatClampNeg p2) (((22 : Int32) + (m_now 5))).toNatClampNeg p3) (((30 : Int32) + (m_now 5))).toNatClampNeg p4) m_tried m_read m_kept m_isKept m_ways m_wins)) (by with_unfolding_all rfl) hb4 ?_
          refine kn_P_steps 18 (f1 := (58, [(5, .int (m_now 5)), (0, .ref 40), (1, .int p1), (2, .int p2), (3, .int p3), (4, .int p4)], [.int (m_now 5)])) (h1 := (kn_hp L xs r_t_kinds r_t_holds r_t_barred r_t_parties r_t_size r_p_numbers r_p_size r_firms r_tied r_wars r_wet r_day r_drawn k_t_kinds k_t_holds k_t_barred k_t_parties k_t_size k_p_numbers k_p_size k_firms k_tied k_wars k_wet k_day k_drawn f_depths f_bars f_ways d_letters d_t_kinds d_t_holds d_t_barred d_t_parties d_t_size d_size d_at s_lanes s_sizes s_items isKept m_lane m_size m_item m_letters m_tape m_position m_number (upd (upd (upd (upd (upd (upd m_now (((6 : Int32) + (m_now 5))).toNatClampNeg p1) (((14 : Int32) + (m_now 5))).toNatClampNeg p2) (((22 : Int32) + (m_now 5))).toNatClampNeg p3) (((30 : Int32) + (m_now 5))).toNatClampNeg p4) 2 (((upd (upd (upd (upd m_now (((6 : Int32) + (m_now 5))).toNatClampNeg p1) (((14 : Int32) + (m_now 5))).toNatClampNeg p2) (((22 : Int32) + (m_now 5))).toNatClampNeg p3) (((30 : Int32) + (m_now 5))).toNatClampNeg p4) 2) ||| ((1 : Int32) <<< ((m_now 5) &&& (31 : Int32))))) 5 (((upd (upd (upd (upd (upd m_now (((6 : Int32) + (m_now 5))).toNatClampNeg p1) (((14 : Int32) + (m_now 5))).toNatClampNeg p2) (((22 : Int32) + (m_now 5))).toNatClampNeg p3) (((30 : Int32) + (m_now 5))).toNatClampNeg p4) 2 (((upd (upd (upd (upd m_now (((6 : Int32) + (m_now 5))).toNatClampNeg p1) (((14 : Int32) + (m_now 5))).toNatClampNeg p2) (((22 : Int32) + (m_now 5))).toNatClampNeg p3) (((30 : Int32) + (m_now 5))).toNatClampNeg p4) 2) ||| ((1 : Int32) <<< ((m_now 5) &&& (31 : Int32))))) 5) + (1 : Int32))) m_tried m_read m_kept m_isKept m_ways m_wins)) (by with_unfolding_all rfl) ?_
          replace hf := Option.some.inj hf
          subst hf
          exact kn_Q_ret (v := some (.int (m_now 5))) (by with_unfolding_all rfl) ⟨rfl, rfl⟩
set_option maxRecDepth 100000 in
set_option maxHeartbeats 4000000 in
theorem mt_X7_clause {p1 : Int32} {p2 : Int32} {p3 : Int32} {p4 : Int32} {r9 : Int32 × (Nat → Int32)} (hf : f_X7_clause m_now p1 p2 p3 p4 = some r9) : kn_Post kn_T km_X7_clause (0, [(0, .ref 35), (1, .int p1), (2, .int p2), (3, .int p3), (4, .int p4)], []) (kn_hp L xs r_t_kinds r_t_holds r_t_barred r_t_parties r_t_size r_p_numbers r_p_size r_firms r_tied r_wars r_wet r_day r_drawn k_t_kinds k_t_holds k_t_barred k_t_parties k_t_size k_p_numbers k_p_size k_firms k_tied k_wars k_wet k_day k_drawn f_depths f_bars f_ways d_letters d_t_kinds d_t_holds d_t_barred d_t_parties d_t_size d_size d_at s_lanes s_sizes s_items isKept m_lane m_size m_item m_letters m_tape m_position m_number m_now m_tried m_read m_kept m_isKept m_ways m_wins) (fun v9 h9 => v9 = some (.int r9.1) ∧ h9 = (kn_hp L xs r_t_kinds r_t_holds r_t_barred r_t_parties r_t_size r_p_numbers r_p_size r_firms r_tied r_wars r_wet r_day r_drawn k_t_kinds k_t_holds k_t_barred k_t_parties k_t_size k_p_numbers k_p_size k_firms k_tied k_wars k_wet k_day k_drawn f_depths f_bars f_ways d_letters d_t_kinds d_t_holds d_t_barred d_t_parties d_t_size d_size d_at s_lanes s_sizes s_items isKept m_lane m_size m_item m_letters m_tape m_position m_number r9.2 m_tried m_read m_kept m_isKept m_ways m_wins)) := by
  unfold f_X7_clause at hf
  refine kn_P_steps 3 (f1 := (3, [(0, .ref 35), (1, .int p1), (2, .int p2), (3, .int p3), (4, .int p4)], [.int (4 : Int32), .int (0 : Int32), .int p1])) (h1 := (kn_hp L xs r_t_kinds r_t_holds r_t_barred r_t_parties r_t_size r_p_numbers r_p_size r_firms r_tied r_wars r_wet r_day r_drawn k_t_kinds k_t_holds k_t_barred k_t_parties k_t_size k_p_numbers k_p_size k_firms k_tied k_wars k_wet k_day k_drawn f_depths f_bars f_ways d_letters d_t_kinds d_t_holds d_t_barred d_t_parties d_t_size d_size d_at s_lanes s_sizes s_items isKept m_lane m_size m_item m_letters m_tape m_position m_number m_now m_tried m_read m_kept m_isKept m_ways m_wins)) (by with_unfolding_all rfl) ?_
  refine kn_Q_call (M1 := km_X7_in) (j := 106) (as := [.int p1, .int (0 : Int32), .int (4 : Int32)]) (f1 := (6, [(0, .ref 35), (1, .int p1), (2, .int p2), (3, .int p3), (4, .int p4)], [])) (f0 := (0, [(0, .int p1), (1, .int (0 : Int32)), (2, .int (4 : Int32))], [])) (by with_unfolding_all rfl) (by with_unfolding_all rfl) (by with_unfolding_all rfl) (mt_X7_in rfl) (fun v9 h9 q9 => ?_)
  obtain ⟨rfl, rfl, hz1⟩ := q9
  refine kn_Q_if (c := (f_X7_in p1 (0 : Int32) (4 : Int32)) = (0 : Int32)) (t := 47) (n := 9) (l1 := [(0, .ref 35), (1, .int p1), (2, .int p2), (3, .int p3), (4, .int p4)]) (s1 := []) (by with_unfolding_all rfl) (fun hc2 => ?_) (fun hc2 => ?_)
  · rw [if_pos hc2] at hf
    refine kn_P_steps 1 (f1 := (48, [(0, .ref 35), (1, .int p1), (2, .int p2), (3, .int p3), (4, .int p4)], [.int (-1 : Int32)])) (h1 := (kn_hp L xs r_t_kinds r_t_holds r_t_barred r_t_parties r_t_size r_p_numbers r_p_size r_firms r_tied r_wars r_wet r_day r_drawn k_t_kinds k_t_holds k_t_barred k_t_parties k_t_size k_p_numbers k_p_size k_firms k_tied k_wars k_wet k_day k_drawn f_depths f_bars f_ways d_letters d_t_kinds d_t_holds d_t_barred d_t_parties d_t_size d_size d_at s_lanes s_sizes s_items isKept m_lane m_size m_item m_letters m_tape m_position m_number m_now m_tried m_read m_kept m_isKept m_ways m_wins)) (by with_unfolding_all rfl) ?_
    replace hf := Option.some.inj hf
    subst hf
    exact kn_Q_ret (v := some (.int (-1 : Int32))) (by with_unfolding_all rfl) ⟨rfl, rfl⟩
  · rw [if_neg hc2] at hf
    refine kn_P_steps 3 (f1 := (13, [(0, .ref 35), (1, .int p1), (2, .int p2), (3, .int p3), (4, .int p4)], [.int (20 : Int32), .int (1 : Int32), .int p2])) (h1 := (kn_hp L xs r_t_kinds r_t_holds r_t_barred r_t_parties r_t_size r_p_numbers r_p_size r_firms r_tied r_wars r_wet r_day r_drawn k_t_kinds k_t_holds k_t_barred k_t_parties k_t_size k_p_numbers k_p_size k_firms k_tied k_wars k_wet k_day k_drawn f_depths f_bars f_ways d_letters d_t_kinds d_t_holds d_t_barred d_t_parties d_t_size d_size d_at s_lanes s_sizes s_items isKept m_lane m_size m_item m_letters m_tape m_position m_number m_now m_tried m_read m_kept m_isKept m_ways m_wins)) (by with_unfolding_all rfl) ?_
    refine kn_Q_call (M1 := km_X7_in) (j := 106) (as := [.int p2, .int (1 : Int32), .int (20 : Int32)]) (f1 := (16, [(0, .ref 35), (1, .int p1), (2, .int p2), (3, .int p3), (4, .int p4)], [])) (f0 := (0, [(0, .int p2), (1, .int (1 : Int32)), (2, .int (20 : Int32))], [])) (by with_unfolding_all rfl) (by with_unfolding_all rfl) (by with_unfolding_all rfl) (mt_X7_in rfl) (fun v9 h9 q9 => ?_)
    obtain ⟨rfl, rfl, hz3⟩ := q9
    refine kn_Q_if (c := (f_X7_in p2 (1 : Int32) (20 : Int32)) = (0 : Int32)) (t := 47) (n := 19) (l1 := [(0, .ref 35), (1, .int p1), (2, .int p2), (3, .int p3), (4, .int p4)]) (s1 := []) (by with_unfolding_all rfl) (fun hc4 => ?_) (fun hc4 => ?_)
    · rw [if_pos hc4] at hf
      refine kn_P_steps 1 (f1 := (48, [(0, .ref 35), (1, .int p1), (2, .int p2), (3, .int p3), (4, .int p4)], [.int (-1 : Int32)])) (h1 := (kn_hp L xs r_t_kinds r_t_holds r_t_barred r_t_parties r_t_size r_p_numbers r_p_size r_firms r_tied r_wars r_wet r_day r_drawn k_t_kinds k_t_holds k_t_barred k_t_parties k_t_size k_p_numbers k_p_size k_firms k_tied k_wars k_wet k_day k_drawn f_depths f_bars f_ways d_letters d_t_kinds d_t_holds d_t_barred d_t_parties d_t_size d_size d_at s_lanes s_sizes s_items isKept m_lane m_size m_item m_letters m_tape m_position m_number m_now m_tried m_read m_kept m_isKept m_ways m_wins)) (by with_unfolding_all rfl) ?_
      replace hf := Option.some.inj hf
      subst hf
      exact kn_Q_ret (v := some (.int (-1 : Int32))) (by with_unfolding_all rfl) ⟨rfl, rfl⟩
    · rw [if_neg hc4] at hf
      refine kn_P_steps 10 (f1 := (31, [(0, .ref 35), (1, .int p1), (2, .int p2), (3, .int p3), (4, .int p4)], [.int (((1 : Int32) <<< ((m_now 5) &&& (31 : Int32))) - (1 : Int32)), .int (0 : Int32), .int p3])) (h1 := (kn_hp L xs r_t_kinds r_t_holds r_t_barred r_t_parties r_t_size r_p_numbers r_p_size r_firms r_tied r_wars r_wet r_day r_drawn k_t_kinds k_t_holds k_t_barred k_t_parties k_t_size k_p_numbers k_p_size k_firms k_tied k_wars k_wet k_day k_drawn f_depths f_bars f_ways d_letters d_t_kinds d_t_holds d_t_barred d_t_parties d_t_size d_size d_at s_lanes s_sizes s_items isKept m_lane m_size m_item m_letters m_tape m_position m_number m_now m_tried m_read m_kept m_isKept m_ways m_wins)) (by with_unfolding_all rfl) ?_
      refine kn_Q_call (M1 := km_X7_in) (j := 106) (as := [.int p3, .int (0 : Int32), .int (((1 : Int32) <<< ((m_now 5) &&& (31 : Int32))) - (1 : Int32))]) (f1 := (34, [(0, .ref 35), (1, .int p1), (2, .int p2), (3, .int p3), (4, .int p4)], [])) (f0 := (0, [(0, .int p3), (1, .int (0 : Int32)), (2, .int (((1 : Int32) <<< ((m_now 5) &&& (31 : Int32))) - (1 : Int32)))], [])) (by with_unfolding_all rfl) (by with_unfolding_all rfl) (by with_unfolding_all rfl) (mt_X7_in rfl) (fun v9 h9 q9 => ?_)
      obtain ⟨rfl, rfl, hz5⟩ := q9
      refine kn_Q_if (c := (f_X7_in p3 (0 : Int32) (((1 : Int32) <<< ((m_now 5) &&& (31 : Int32))) - (1 : Int32))) = (0 : Int32)) (t := 47) (n := 37) (l1 := [(0, .ref 35), (1, .int p1), (2, .int p2), (3, .int p3), (4, .int p4)]) (s1 := []) (by with_unfolding_all rfl) (fun hc6 => ?_) (fun hc6 => ?_)
      · rw [if_pos hc6] at hf
        refine kn_P_steps 1 (f1 := (48, [(0, .ref 35), (1, .int p1), (2, .int p2), (3, .int p3), (4, .int p4)], [.int (-1 : Int32)])) (h1 := (kn_hp L xs r_t_kinds r_t_holds r_t_barred r_t_parties r_t_size r_p_numbers r_p_size r_firms r_tied r_wars r_wet r_day r_drawn k_t_kinds k_t_holds k_t_barred k_t_parties k_t_size k_p_numbers k_p_size k_firms k_tied k_wars k_wet k_day k_drawn f_depths f_bars f_ways d_letters d_t_kinds d_t_holds d_t_barred d_t_parties d_t_size d_size d_at s_lanes s_sizes s_items isKept m_lane m_size m_item m_letters m_tape m_position m_number m_now m_tried m_read m_kept m_isKept m_ways m_wins)) (by with_unfolding_all rfl) ?_
        replace hf := Option.some.inj hf
        subst hf
        exact kn_Q_ret (v := some (.int (-1 : Int32))) (by with_unfolding_all rfl) ⟨rfl, rfl⟩
      · rw [if_neg hc6] at hf
        refine kn_P_steps 3 (f1 := (41, [(0, .ref 35), (1, .int p1), (2, .int p2), (3, .int p3), (4, .int p4)], [.int (3 : Int32), .int (0 : Int32), .int p4])) (h1 := (kn_hp L xs r_t_kinds r_t_holds r_t_barred r_t_parties r_t_size r_p_numbers r_p_size r_firms r_tied r_wars r_wet r_day r_drawn k_t_kinds k_t_holds k_t_barred k_t_parties k_t_size k_p_numbers k_p_size k_firms k_tied k_wars k_wet k_day k_drawn f_depths f_bars f_ways d_letters d_t_kinds d_t_holds d_t_barred d_t_parties d_t_size d_size d_at s_lanes s_sizes s_items isKept m_lane m_size m_item m_letters m_tape m_position m_number m_now m_tried m_read m_kept m_isKept m_ways m_wins)) (by with_unfolding_all rfl) ?_
        refine kn_Q_call (M1 := km_X7_in) (j := 106) (as := [.int p4, .int (0 : Int32), .int (3 : Int32)]) (f1 := (44, [(0, .ref 35), (1, .int p1), (2, .int p2), (3, .int p3), (4, .int p4)], [])) (f0 := (0, [(0, .int p4), (1, .int (0 : Int32)), (2, .int (3 : Int32))], [])) (by with_unfolding_all rfl) (by with_unfolding_all rfl) (by with_unfolding_all rfl) (mt_X7_in rfl) (fun v9 h9 q9 => ?_)
        obtain ⟨rfl, rfl, hz7⟩ := q9
        refine kn_Q_if (c := (f_X7_in p4 (0 : Int32) (3 : Int32)) = (0 : Int32)) (t := 47) (n := 49) (l1 := [(0, .ref 35), (1, .int p1), (2, .int p2), (3, .int p3), (4, .int p4)]) (s1 := []) (by with_unfolding_all rfl) (fun hc8 => ?_) (fun hc8 => ?_)
        · rw [if_pos hc8] at hf
          refine kn_P_steps 1 (f1 := (48, [(0, .ref 35), (1, .int p1), (2, .int p2), (3, .int p3), (4, .int p4)], [.int (-1 : Int32)])) (h1 := (kn_hp L xs r_t_kinds r_t_holds r_t_barred r_t_parties r_t_size r_p_numbers r_p_size r_firms r_tied r_wars r_wet r_day r_drawn k_t_kinds k_t_holds k_t_barred k_t_parties k_t_size k_p_numbers k_p_size k_firms k_tied k_wars k_wet k_day k_drawn f_depths f_bars f_ways d_letters d_t_kinds d_t_holds d_t_barred d_t_parties d_t_size d_size d_at s_lanes s_sizes s_items isKept m_lane m_size m_item m_letters m_tape m_position m_number m_now m_tried m_read m_kept m_isKept m_ways m_wins)) (by with_unfolding_all rfl) ?_
          replace hf := Option.some.inj hf
          subst hf
          exact kn_Q_ret (v := some (.int (-1 : Int32))) (by with_unfolding_all rfl) ⟨rfl, rfl⟩
        · rw [if_neg hc8] at hf
          refine kn_P_steps 5 (f1 := (57, [(0, .ref 35), (1, .int p1), (2, .int p2), (3, .int p3), (4, .int p4)], [.int (8 : Int32), .int (m_now 5)])) (h1 := (kn_hp L xs r_t_kinds r_t_holds r_t_barred r_t_parties r_t_size r_p_numbers r_p_size r_firms r_tied r_wars r_wet r_day r_drawn k_t_kinds k_t_holds k_t_barred k_t_parties k_t_size k_p_numbers k_p_size k_firms k_tied k_wars k_wet k_day k_drawn f_depths f_bars f_ways d_letters d_t_kinds d_t_holds d_t_barred d_t_parties d_t_size d_size d_at s_lanes s_sizes s_items isKept m_lane m_size m_item m_letters m_tape m_position m_number m_now m_tried m_read m_kept m_isKept m_ways m_wins)) (by with_unfolding_all rfl) ?_
          refine kn_Q_if (c := (m_now 5) = (8 : Int32)) (t := 60) (n := 63) (l1 := [(0, .ref 35), (1, .int p1), (2, .int p2), (3, .int p3), (4, .int p4)]) (s1 := []) (by with_unfolding_all rfl) (fun hc9 => ?_) (fun hc9 => ?_)
          · rw [if_pos hc9] at hf
            refine kn_P_steps 1 (f1 := (62, [(0, .ref 35), (1, .int p1), (2, .int p2), (3, .int p3), (4, .int p4)], [.int (-3 : Int32)])) (h1 := (kn_hp L xs r_t_kinds r_t_holds r_t_barred r_t_parties r_t_size r_p_numbers r_p_size r_firms r_tied r_wars r_wet r_day r_drawn k_t_kinds k_t_holds k_t_barred k_t_parties k_t_size k_p_numbers k_p_size k_firms k_tied k_wars k_wet k_day k_drawn f_depths f_bars f_ways d_letters d_t_kinds d_t_holds d_t_barred d_t_parties d_t_size d_size d_at s_lanes s_sizes s_items isKept m_lane m_size m_item m_letters m_tape m_position m_number m_now m_tried m_read m_kept m_isKept m_ways m_wins)) (by with_unfolding_all rfl) ?_
            replace hf := Option.some.inj hf
            subst hf
            exact kn_Q_ret (v := some (.int (-3 : Int32))) (by with_unfolding_all rfl) ⟨rfl, rfl⟩
          · rw [if_neg hc9] at hf
            refine kn_P_steps 11 (f1 := (80, [(0, .ref 35), (1, .int p1), (2, .int p2), (3, .int p3), (4, .int p4)], [.int p4, .int p3, .int p2, .int p1, .ref 40])) (h1 := (kn_hp L xs r_t_kinds r_t_holds r_t_barred r_t_parties r_t_size r_p_numbers r_p_size r_firms r_tied r_wars r_wet r_day r_drawn k_t_kinds k_t_holds k_t_barred k_t_parties k_t_size k_p_numbers k_p_size k_firms k_tied k_wars k_wet k_day k_drawn f_depths f_bars f_ways d_letters d_t_kinds d_t_holds d_t_barred d_t_parties d_t_size d_size d_at s_lanes s_sizes s_items isKept m_lane m_size m_item m_letters m_tape m_position m_number (upd m_now 38 (0 : Int32)) m_tried m_read m_kept m_isKept m_ways m_wins)) (by with_unfolding_all rfl) ?_
            cases e10 : f_X7_add (upd m_now 38 (0 : Int32)) p1 p2 p3 p4 with
            | none => rw [e10] at hf; cases hf
            | some q1 =>
              rw [e10] at hf
              dsimp only at hf
              refine kn_Q_call (M1 := km_X7_add) (j := 111) (as := [.ref 40, .int p1, .int p2, .int p3, .int p4]) (f1 := (83, [(0, .ref 35), (1, .int p1), (2, .int p2), (3, .int p3), (4, .int p4)], [])) (f0 := (0, [(0, .ref 40), (1, .int p1), (2, .int p2), (3, .int p3), (4, .int p4)], [])) (by with_unfolding_all rfl) (by with_unfolding_all rfl) (by with_unfolding_all rfl) (mt_X7_add e10) (fun v9 h9 q9 => ?_)
              obtain ⟨rfl, rfl⟩ := q9
              replace hf := Option.some.inj hf
              subst hf
              exact kn_Q_ret (v := some (.int q1.1)) (by with_unfolding_all rfl) ⟨rfl, rfl⟩
set_option maxRecDepth 100000 in
set_option maxHeartbeats 4000000 in
theorem mt_X6_isClause {p1 : Int32} {r9 : Int32} (hf : f_X6_isClause r_t_size p1 = r9) : kn_Post kn_T km_X6_isClause (0, [(0, .ref 1), (1, .int p1)], []) (kn_hp L xs r_t_kinds r_t_holds r_t_barred r_t_parties r_t_size r_p_numbers r_p_size r_firms r_tied r_wars r_wet r_day r_drawn k_t_kinds k_t_holds k_t_barred k_t_parties k_t_size k_p_numbers k_p_size k_firms k_tied k_wars k_wet k_day k_drawn f_depths f_bars f_ways d_letters d_t_kinds d_t_holds d_t_barred d_t_parties d_t_size d_size d_at s_lanes s_sizes s_items isKept m_lane m_size m_item m_letters m_tape m_position m_number m_now m_tried m_read m_kept m_isKept m_ways m_wins) (fun v9 h9 => v9 = some (.int r9) ∧ h9 = (kn_hp L xs r_t_kinds r_t_holds r_t_barred r_t_parties r_t_size r_p_numbers r_p_size r_firms r_tied r_wars r_wet r_day r_drawn k_t_kinds k_t_holds k_t_barred k_t_parties k_t_size k_p_numbers k_p_size k_firms k_tied k_wars k_wet k_day k_drawn f_depths f_bars f_ways d_letters d_t_kinds d_t_holds d_t_barred d_t_parties d_t_size d_size d_at s_lanes s_sizes s_items isKept m_lane m_size m_item m_letters m_tape m_position m_number m_now m_tried m_read m_kept m_isKept m_ways m_wins) ∧ (r9 = 0 ∨ r9 = 1)) := by
  unfold f_X6_isClause at hf
  refine kn_P_steps 1 (f1 := (1, [(0, .ref 1), (1, .int p1)], [.int p1])) (h1 := (kn_hp L xs r_t_kinds r_t_holds r_t_barred r_t_parties r_t_size r_p_numbers r_p_size r_firms r_tied r_wars r_wet r_day r_drawn k_t_kinds k_t_holds k_t_barred k_t_parties k_t_size k_p_numbers k_p_size k_firms k_tied k_wars k_wet k_day k_drawn f_depths f_bars f_ways d_letters d_t_kinds d_t_holds d_t_barred d_t_parties d_t_size d_size d_at s_lanes s_sizes s_items isKept m_lane m_size m_item m_letters m_tape m_position m_number m_now m_tried m_read m_kept m_isKept m_ways m_wins)) (by with_unfolding_all rfl) ?_
  refine kn_Q_if (c := p1 < (0 : Int32)) (t := 28) (n := 4) (l1 := [(0, .ref 1), (1, .int p1)]) (s1 := []) (by with_unfolding_all rfl) (fun hc1 => ?_) (fun hc1 => ?_)
  · rw [if_pos hc1] at hf
    refine kn_P_steps 1 (f1 := (29, [(0, .ref 1), (1, .int p1)], [.int (0 : Int32)])) (h1 := (kn_hp L xs r_t_kinds r_t_holds r_t_barred r_t_parties r_t_size r_p_numbers r_p_size r_firms r_tied r_wars r_wet r_day r_drawn k_t_kinds k_t_holds k_t_barred k_t_parties k_t_size k_p_numbers k_p_size k_firms k_tied k_wars k_wet k_day k_drawn f_depths f_bars f_ways d_letters d_t_kinds d_t_holds d_t_barred d_t_parties d_t_size d_size d_at s_lanes s_sizes s_items isKept m_lane m_size m_item m_letters m_tape m_position m_number m_now m_tried m_read m_kept m_isKept m_ways m_wins)) (by with_unfolding_all rfl) ?_
    subst hf
    exact kn_Q_ret (v := some (.int (0 : Int32))) (by with_unfolding_all rfl) ⟨rfl, rfl, Or.inl rfl⟩
  · rw [if_neg hc1] at hf
    refine kn_P_steps 5 (f1 := (15, [(0, .ref 1), (1, .int p1)], [.int r_t_size, .int p1])) (h1 := (kn_hp L xs r_t_kinds r_t_holds r_t_barred r_t_parties r_t_size r_p_numbers r_p_size r_firms r_tied r_wars r_wet r_day r_drawn k_t_kinds k_t_holds k_t_barred k_t_parties k_t_size k_p_numbers k_p_size k_firms k_tied k_wars k_wet k_day k_drawn f_depths f_bars f_ways d_letters d_t_kinds d_t_holds d_t_barred d_t_parties d_t_size d_size d_at s_lanes s_sizes s_items isKept m_lane m_size m_item m_letters m_tape m_position m_number m_now m_tried m_read m_kept m_isKept m_ways m_wins)) (by with_unfolding_all rfl) ?_
    refine kn_Q_if (c := r_t_size ≤ p1) (t := 28) (n := 18) (l1 := [(0, .ref 1), (1, .int p1)]) (s1 := []) (by with_unfolding_all rfl) (fun hc2 => ?_) (fun hc2 => ?_)
    · rw [if_pos hc2] at hf
      refine kn_P_steps 1 (f1 := (29, [(0, .ref 1), (1, .int p1)], [.int (0 : Int32)])) (h1 := (kn_hp L xs r_t_kinds r_t_holds r_t_barred r_t_parties r_t_size r_p_numbers r_p_size r_firms r_tied r_wars r_wet r_day r_drawn k_t_kinds k_t_holds k_t_barred k_t_parties k_t_size k_p_numbers k_p_size k_firms k_tied k_wars k_wet k_day k_drawn f_depths f_bars f_ways d_letters d_t_kinds d_t_holds d_t_barred d_t_parties d_t_size d_size d_at s_lanes s_sizes s_items isKept m_lane m_size m_item m_letters m_tape m_position m_number m_now m_tried m_read m_kept m_isKept m_ways m_wins)) (by with_unfolding_all rfl) ?_
      subst hf
      exact kn_Q_ret (v := some (.int (0 : Int32))) (by with_unfolding_all rfl) ⟨rfl, rfl, Or.inl rfl⟩
    · rw [if_neg hc2] at hf
      refine kn_P_steps 2 (f1 := (21, [(0, .ref 1), (1, .int p1)], [.int (8 : Int32), .int p1])) (h1 := (kn_hp L xs r_t_kinds r_t_holds r_t_barred r_t_parties r_t_size r_p_numbers r_p_size r_firms r_tied r_wars r_wet r_day r_drawn k_t_kinds k_t_holds k_t_barred k_t_parties k_t_size k_p_numbers k_p_size k_firms k_tied k_wars k_wet k_day k_drawn f_depths f_bars f_ways d_letters d_t_kinds d_t_holds d_t_barred d_t_parties d_t_size d_size d_at s_lanes s_sizes s_items isKept m_lane m_size m_item m_letters m_tape m_position m_number m_now m_tried m_read m_kept m_isKept m_ways m_wins)) (by with_unfolding_all rfl) ?_
      refine kn_Q_if (c := (8 : Int32) ≤ p1) (t := 28) (n := 24) (l1 := [(0, .ref 1), (1, .int p1)]) (s1 := []) (by with_unfolding_all rfl) (fun hc3 => ?_) (fun hc3 => ?_)
      · rw [if_pos hc3] at hf
        refine kn_P_steps 1 (f1 := (29, [(0, .ref 1), (1, .int p1)], [.int (0 : Int32)])) (h1 := (kn_hp L xs r_t_kinds r_t_holds r_t_barred r_t_parties r_t_size r_p_numbers r_p_size r_firms r_tied r_wars r_wet r_day r_drawn k_t_kinds k_t_holds k_t_barred k_t_parties k_t_size k_p_numbers k_p_size k_firms k_tied k_wars k_wet k_day k_drawn f_depths f_bars f_ways d_letters d_t_kinds d_t_holds d_t_barred d_t_parties d_t_size d_size d_at s_lanes s_sizes s_items isKept m_lane m_size m_item m_letters m_tape m_position m_number m_now m_tried m_read m_kept m_isKept m_ways m_wins)) (by with_unfolding_all rfl) ?_
        subst hf
        exact kn_Q_ret (v := some (.int (0 : Int32))) (by with_unfolding_all rfl) ⟨rfl, rfl, Or.inl rfl⟩
      · rw [if_neg hc3] at hf
        refine kn_P_steps 2 (f1 := (29, [(0, .ref 1), (1, .int p1)], [.int (1 : Int32)])) (h1 := (kn_hp L xs r_t_kinds r_t_holds r_t_barred r_t_parties r_t_size r_p_numbers r_p_size r_firms r_tied r_wars r_wet r_day r_drawn k_t_kinds k_t_holds k_t_barred k_t_parties k_t_size k_p_numbers k_p_size k_firms k_tied k_wars k_wet k_day k_drawn f_depths f_bars f_ways d_letters d_t_kinds d_t_holds d_t_barred d_t_parties d_t_size d_size d_at s_lanes s_sizes s_items isKept m_lane m_size m_item m_letters m_tape m_position m_number m_now m_tried m_read m_kept m_isKept m_ways m_wins)) (by with_unfolding_all rfl) ?_
        subst hf
        exact kn_Q_ret (v := some (.int (1 : Int32))) (by with_unfolding_all rfl) ⟨rfl, rfl, Or.inr rfl⟩
set_option maxRecDepth 100000 in
set_option maxHeartbeats 4000000 in
theorem mt_X6_has {p0 : Int32} {p1 : Int32} {r9 : Int32} (hf : f_X6_has p0 p1 = r9) : kn_Post kn_T km_X6_has (0, [(0, .int p0), (1, .int p1)], []) (kn_hp L xs r_t_kinds r_t_holds r_t_barred r_t_parties r_t_size r_p_numbers r_p_size r_firms r_tied r_wars r_wet r_day r_drawn k_t_kinds k_t_holds k_t_barred k_t_parties k_t_size k_p_numbers k_p_size k_firms k_tied k_wars k_wet k_day k_drawn f_depths f_bars f_ways d_letters d_t_kinds d_t_holds d_t_barred d_t_parties d_t_size d_size d_at s_lanes s_sizes s_items isKept m_lane m_size m_item m_letters m_tape m_position m_number m_now m_tried m_read m_kept m_isKept m_ways m_wins) (fun v9 h9 => v9 = some (.int r9) ∧ h9 = (kn_hp L xs r_t_kinds r_t_holds r_t_barred r_t_parties r_t_size r_p_numbers r_p_size r_firms r_tied r_wars r_wet r_day r_drawn k_t_kinds k_t_holds k_t_barred k_t_parties k_t_size k_p_numbers k_p_size k_firms k_tied k_wars k_wet k_day k_drawn f_depths f_bars f_ways d_letters d_t_kinds d_t_holds d_t_barred d_t_parties d_t_size d_size d_at s_lanes s_sizes s_items isKept m_lane m_size m_item m_letters m_tape m_position m_number m_now m_tried m_read m_kept m_isKept m_ways m_wins) ∧ (r9 = 0 ∨ r9 = 1)) := by
  unfold f_X6_has at hf
  refine kn_P_steps 5 (f1 := (5, [(0, .int p0), (1, .int p1)], [.int ((p0 >>> (p1 &&& (31 : Int32))) &&& (1 : Int32))])) (h1 := (kn_hp L xs r_t_kinds r_t_holds r_t_barred r_t_parties r_t_size r_p_numbers r_p_size r_firms r_tied r_wars r_wet r_day r_drawn k_t_kinds k_t_holds k_t_barred k_t_parties k_t_size k_p_numbers k_p_size k_firms k_tied k_wars k_wet k_day k_drawn f_depths f_bars f_ways d_letters d_t_kinds d_t_holds d_t_barred d_t_parties d_t_size d_size d_at s_lanes s_sizes s_items isKept m_lane m_size m_item m_letters m_tape m_position m_number m_now m_tried m_read m_kept m_isKept m_ways m_wins)) (by with_unfolding_all rfl) ?_
  refine kn_Q_if (c := ((p0 >>> (p1 &&& (31 : Int32))) &&& (1 : Int32)) = (0 : Int32)) (t := 12) (n := 8) (l1 := [(0, .int p0), (1, .int p1)]) (s1 := []) (by with_unfolding_all rfl) (fun hc1 => ?_) (fun hc1 => ?_)
  · rw [if_pos hc1] at hf
    refine kn_P_steps 1 (f1 := (13, [(0, .int p0), (1, .int p1)], [.int (0 : Int32)])) (h1 := (kn_hp L xs r_t_kinds r_t_holds r_t_barred r_t_parties r_t_size r_p_numbers r_p_size r_firms r_tied r_wars r_wet r_day r_drawn k_t_kinds k_t_holds k_t_barred k_t_parties k_t_size k_p_numbers k_p_size k_firms k_tied k_wars k_wet k_day k_drawn f_depths f_bars f_ways d_letters d_t_kinds d_t_holds d_t_barred d_t_parties d_t_size d_size d_at s_lanes s_sizes s_items isKept m_lane m_size m_item m_letters m_tape m_position m_number m_now m_tried m_read m_kept m_isKept m_ways m_wins)) (by with_unfolding_all rfl) ?_
    subst hf
    exact kn_Q_ret (v := some (.int (0 : Int32))) (by with_unfolding_all rfl) ⟨rfl, rfl, Or.inl rfl⟩
  · rw [if_neg hc1] at hf
    refine kn_P_steps 2 (f1 := (13, [(0, .int p0), (1, .int p1)], [.int (1 : Int32)])) (h1 := (kn_hp L xs r_t_kinds r_t_holds r_t_barred r_t_parties r_t_size r_p_numbers r_p_size r_firms r_tied r_wars r_wet r_day r_drawn k_t_kinds k_t_holds k_t_barred k_t_parties k_t_size k_p_numbers k_p_size k_firms k_tied k_wars k_wet k_day k_drawn f_depths f_bars f_ways d_letters d_t_kinds d_t_holds d_t_barred d_t_parties d_t_size d_size d_at s_lanes s_sizes s_items isKept m_lane m_size m_item m_letters m_tape m_position m_number m_now m_tried m_read m_kept m_isKept m_ways m_wins)) (by with_unfolding_all rfl) ?_
    subst hf
    exact kn_Q_ret (v := some (.int (1 : Int32))) (by with_unfolding_all rfl) ⟨rfl, rfl, Or.inr rfl⟩
set_option maxRecDepth 100000 in
set_option maxHeartbeats 4000000 in
theorem ml_X4_freeAmong_4 : ∀ (n : Nat) (r_t_barred : (Nat → Int32)) (v1 : Int32) (v2 : Int32) (v3 : Int32) (r9 : Int32), fl_X4_freeAmong_4 n r_t_barred v1 v2 v3 = some r9 → kn_Post kn_T km_X4_freeAmong (4, [(0, .ref 2), (1, .int v1), (2, .int v2), (3, .int v3)], []) (kn_hp L xs r_t_kinds r_t_holds r_t_barred r_t_parties r_t_size r_p_numbers r_p_size r_firms r_tied r_wars r_wet r_day r_drawn k_t_kinds k_t_holds k_t_barred k_t_parties k_t_size k_p_numbers k_p_size k_firms k_tied k_wars k_wet k_day k_drawn f_depths f_bars f_ways d_letters d_t_kinds d_t_holds d_t_barred d_t_parties d_t_size d_size d_at s_lanes s_sizes s_items isKept m_lane m_size m_item m_letters m_tape m_position m_number m_now m_tried m_read m_kept m_isKept m_ways m_wins) (fun v9 h9 => v9 = some (.int r9) ∧ h9 = (kn_hp L xs r_t_kinds r_t_holds r_t_barred r_t_parties r_t_size r_p_numbers r_p_size r_firms r_tied r_wars r_wet r_day r_drawn k_t_kinds k_t_holds k_t_barred k_t_parties k_t_size k_p_numbers k_p_size k_firms k_tied k_wars k_wet k_day k_drawn f_depths f_bars f_ways d_letters d_t_kinds d_t_holds d_t_barred d_t_parties d_t_size d_size d_at s_lanes s_sizes s_items isKept m_lane m_size m_item m_letters m_tape m_position m_number m_now m_tried m_read m_kept m_isKept m_ways m_wins)) := by
  intro n
  induction n with
  | zero => intro r_t_barred v1 v2 v3 r9 hf; cases hf
  | succ n ih =>
    intro r_t_barred v1 v2 v3 r9 hf
    rw [fl_X4_freeAmong_4] at hf
    refine kn_P_steps 2 (f1 := (7, [(0, .ref 2), (1, .int v1), (2, .int v2), (3, .int v3)], [.int (8 : Int32), .int v3])) (h1 := (kn_hp L xs r_t_kinds r_t_holds r_t_barred r_t_parties r_t_size r_p_numbers r_p_size r_firms r_tied r_wars r_wet r_day r_drawn k_t_kinds k_t_holds k_t_barred k_t_parties k_t_size k_p_numbers k_p_size k_firms k_tied k_wars k_wet k_day k_drawn f_depths f_bars f_ways d_letters d_t_kinds d_t_holds d_t_barred d_t_parties d_t_size d_size d_at s_lanes s_sizes s_items isKept m_lane m_size m_item m_letters m_tape m_position m_number m_now m_tried m_read m_kept m_isKept m_ways m_wins)) (by with_unfolding_all rfl) ?_
    refine kn_Q_if (c := (8 : Int32) ≤ v3) (t := 44) (n := 10) (l1 := [(0, .ref 2), (1, .int v1), (2, .int v2), (3, .int v3)]) (s1 := []) (by with_unfolding_all rfl) (fun hc1 => ?_) (fun hc1 => ?_)
    · rw [if_pos hc1] at hf
      refine kn_P_steps 1 (f1 := (45, [(0, .ref 2), (1, .int v1), (2, .int v2), (3, .int v3)], [.int v2])) (h1 := (kn_hp L xs r_t_kinds r_t_holds r_t_barred r_t_parties r_t_size r_p_numbers r_p_size r_firms r_tied r_wars r_wet r_day r_drawn k_t_kinds k_t_holds k_t_barred k_t_parties k_t_size k_p_numbers k_p_size k_firms k_tied k_wars k_wet k_day k_drawn f_depths f_bars f_ways d_letters d_t_kinds d_t_holds d_t_barred d_t_parties d_t_size d_size d_at s_lanes s_sizes s_items isKept m_lane m_size m_item m_letters m_tape m_position m_number m_now m_tried m_read m_kept m_isKept m_ways m_wins)) (by with_unfolding_all rfl) ?_
      replace hf := Option.some.inj hf
      subst hf
      exact kn_Q_ret (v := some (.int v2)) (by with_unfolding_all rfl) ⟨rfl, rfl⟩
    · rw [if_neg hc1] at hf
      refine kn_P_steps 2 (f1 := (12, [(0, .ref 2), (1, .int v1), (2, .int v2), (3, .int v3)], [.int v3, .int v1])) (h1 := (kn_hp L xs r_t_kinds r_t_holds r_t_barred r_t_parties r_t_size r_p_numbers r_p_size r_firms r_tied r_wars r_wet r_day r_drawn k_t_kinds k_t_holds k_t_barred k_t_parties k_t_size k_p_numbers k_p_size k_firms k_tied k_wars k_wet k_day k_drawn f_depths f_bars f_ways d_letters d_t_kinds d_t_holds d_t_barred d_t_parties d_t_size d_size d_at s_lanes s_sizes s_items isKept m_lane m_size m_item m_letters m_tape m_position m_number m_now m_tried m_read m_kept m_isKept m_ways m_wins)) (by with_unfolding_all rfl) ?_
      refine kn_Q_call (M1 := km_X6_has) (j := 97) (as := [.int v1, .int v3]) (f1 := (15, [(0, .ref 2), (1, .int v1), (2, .int v2), (3, .int v3)], [])) (f0 := (0, [(0, .int v1), (1, .int v3)], [])) (by with_unfolding_all rfl) (by with_unfolding_all rfl) (by with_unfolding_all rfl) (mt_X6_has rfl) (fun v9 h9 q9 => ?_)
      obtain ⟨rfl, rfl, hz2⟩ := q9
      refine kn_Q_if (c := (f_X6_has v1 v3) = (0 : Int32)) (t := 38) (n := 18) (l1 := [(0, .ref 2), (1, .int v1), (2, .int v2), (3, .int v3)]) (s1 := []) (by with_unfolding_all rfl) (fun hc3 => ?_) (fun hc3 => ?_)
      · rw [if_pos hc3] at hf
        refine kn_P_steps 2 (f1 := (4, [(3, .int (v3 + (1 : Int32))), (0, .ref 2), (1, .int v1), (2, .int v2)], [])) (h1 := (kn_hp L xs r_t_kinds r_t_holds r_t_barred r_t_parties r_t_size r_p_numbers r_p_size r_firms r_tied r_wars r_wet r_day r_drawn k_t_kinds k_t_holds k_t_barred k_t_parties k_t_size k_p_numbers k_p_size k_firms k_tied k_wars k_wet k_day k_drawn f_depths f_bars f_ways d_letters d_t_kinds d_t_holds d_t_barred d_t_parties d_t_size d_size d_at s_lanes s_sizes s_items isKept m_lane m_size m_item m_letters m_tape m_position m_number m_now m_tried m_read m_kept m_isKept m_ways m_wins)) (by with_unfolding_all rfl) ?_
        refine kn_P_pick [1, 2, 3, 0] (l1 := [(0, .ref 2), (1, .int v1), (2, .int v2), (3, .int (v3 + (1 : Int32)))]) (by with_unfolding_all rfl) (by with_unfolding_all rfl) ?_
        exact ih _ _ _ _ _ hf
      · rw [if_neg hc3] at hf
        refine kn_P_steps 4 (f1 := (26, [(0, .ref 2), (1, .int v1), (2, .int v2), (3, .int v3)], [.int v3, .ref 6])) (h1 := (kn_hp L xs r_t_kinds r_t_holds r_t_barred r_t_parties r_t_size r_p_numbers r_p_size r_firms r_tied r_wars r_wet r_day r_drawn k_t_kinds k_t_holds k_t_barred k_t_parties k_t_size k_p_numbers k_p_size k_firms k_tied k_wars k_wet k_day k_drawn f_depths f_bars f_ways d_letters d_t_kinds d_t_holds d_t_barred d_t_parties d_t_size d_size d_at s_lanes s_sizes s_items isKept m_lane m_size m_item m_letters m_tape m_position m_number m_now m_tried m_read m_kept m_isKept m_ways m_wins)) (by with_unfolding_all rfl) ?_
        by_cases hb4 : v3 < 0 ∨ 8 ≤ (v3).toNatClampNeg
        · rw [if_pos hb4] at hf; cases hf
        · rw [if_neg hb4] at hf
          refine kn_Q_ok (c := v3 < 0 ∨ 8 ≤ (v3).toNatClampNeg) (t := 27) (l1 := [(0, .ref 2), (1, .int v1), (2, .int v2), (3, .int v3)]) (s1 := [.int (r_t_barred (v3).toNatClampNeg)]) (h1 := (kn_hp L xs r_t_kinds r_t_holds r_t_barred r_t_parties r_t_size r_p_numbers r_p_size r_firms r_tied r_wars r_wet r_day r_drawn k_t_kinds k_t_holds k_t_barred k_t_parties k_t_size k_p_numbers k_p_size k_firms k_tied k_wars k_wet k_day k_drawn f_depths f_bars f_ways d_letters d_t_kinds d_t_holds d_t_barred d_t_parties d_t_size d_size d_at s_lanes s_sizes s_items isKept m_lane m_size m_item m_letters m_tape m_position m_number m_now m_tried m_read m_kept m_isKept m_ways m_wins)) (by with_unfolding_all rfl) hb4 ?_
          refine kn_P_steps 2 (f1 := (29, [(0, .ref 2), (1, .int v1), (2, .int v2), (3, .int v3)], [.int ((r_t_barred (v3).toNatClampNeg) &&& v1)])) (h1 := (kn_hp L xs r_t_kinds r_t_holds r_t_barred r_t_parties r_t_size r_p_numbers r_p_size r_firms r_tied r_wars r_wet r_day r_drawn k_t_kinds k_t_holds k_t_barred k_t_parties k_t_size k_p_numbers k_p_size k_firms k_tied k_wars k_wet k_day k_drawn f_depths f_bars f_ways d_letters d_t_kinds d_t_holds d_t_barred d_t_parties d_t_size d_size d_at s_lanes s_sizes s_items isKept m_lane m_size m_item m_letters m_tape m_position m_number m_now m_tried m_read m_kept m_isKept m_ways m_wins)) (by with_unfolding_all rfl) ?_
          refine kn_Q_if (c := ((r_t_barred (v3).toNatClampNeg) &&& v1) = (0 : Int32)) (t := 32) (n := 38) (l1 := [(0, .ref 2), (1, .int v1), (2, .int v2), (3, .int v3)]) (s1 := []) (by with_unfolding_all rfl) (fun hc5 => ?_) (fun hc5 => ?_)
          · rw [if_pos hc5] at hf
            refine kn_P_steps 8 (f1 := (4, [(3, .int (v3 + (1 : Int32))), (2, .int (v2 ||| ((1 : Int32) <<< (v3 &&& (31 : Int32))))), (0, .ref 2), (1, .int v1)], [])) (h1 := (kn_hp L xs r_t_kinds r_t_holds r_t_barred r_t_parties r_t_size r_p_numbers r_p_size r_firms r_tied r_wars r_wet r_day r_drawn k_t_kinds k_t_holds k_t_barred k_t_parties k_t_size k_p_numbers k_p_size k_firms k_tied k_wars k_wet k_day k_drawn f_depths f_bars f_ways d_letters d_t_kinds d_t_holds d_t_barred d_t_parties d_t_size d_size d_at s_lanes s_sizes s_items isKept m_lane m_size m_item m_letters m_tape m_position m_number m_now m_tried m_read m_kept m_isKept m_ways m_wins)) (by with_unfolding_all rfl) ?_
            refine kn_P_pick [2, 3, 1, 0] (l1 := [(0, .ref 2), (1, .int v1), (2, .int (v2 ||| ((1 : Int32) <<< (v3 &&& (31 : Int32))))), (3, .int (v3 + (1 : Int32)))]) (by with_unfolding_all rfl) (by with_unfolding_all rfl) ?_
            exact ih _ _ _ _ _ hf
          · rw [if_neg hc5] at hf
            refine kn_P_steps 2 (f1 := (4, [(3, .int (v3 + (1 : Int32))), (0, .ref 2), (1, .int v1), (2, .int v2)], [])) (h1 := (kn_hp L xs r_t_kinds r_t_holds r_t_barred r_t_parties r_t_size r_p_numbers r_p_size r_firms r_tied r_wars r_wet r_day r_drawn k_t_kinds k_t_holds k_t_barred k_t_parties k_t_size k_p_numbers k_p_size k_firms k_tied k_wars k_wet k_day k_drawn f_depths f_bars f_ways d_letters d_t_kinds d_t_holds d_t_barred d_t_parties d_t_size d_size d_at s_lanes s_sizes s_items isKept m_lane m_size m_item m_letters m_tape m_position m_number m_now m_tried m_read m_kept m_isKept m_ways m_wins)) (by with_unfolding_all rfl) ?_
            refine kn_P_pick [1, 2, 3, 0] (l1 := [(0, .ref 2), (1, .int v1), (2, .int v2), (3, .int (v3 + (1 : Int32)))]) (by with_unfolding_all rfl) (by with_unfolding_all rfl) ?_
            exact ih _ _ _ _ _ hf
set_option maxRecDepth 100000 in
set_option maxHeartbeats 4000000 in
theorem mt_X4_freeAmong {p1 : Int32} {r9 : Int32} (hf : f_X4_freeAmong r_t_barred p1 = some r9) : kn_Post kn_T km_X4_freeAmong (0, [(0, .ref 2), (1, .int p1)], []) (kn_hp L xs r_t_kinds r_t_holds r_t_barred r_t_parties r_t_size r_p_numbers r_p_size r_firms r_tied r_wars r_wet r_day r_drawn k_t_kinds k_t_holds k_t_barred k_t_parties k_t_size k_p_numbers k_p_size k_firms k_tied k_wars k_wet k_day k_drawn f_depths f_bars f_ways d_letters d_t_kinds d_t_holds d_t_barred d_t_parties d_t_size d_size d_at s_lanes s_sizes s_items isKept m_lane m_size m_item m_letters m_tape m_position m_number m_now m_tried m_read m_kept m_isKept m_ways m_wins) (fun v9 h9 => v9 = some (.int r9) ∧ h9 = (kn_hp L xs r_t_kinds r_t_holds r_t_barred r_t_parties r_t_size r_p_numbers r_p_size r_firms r_tied r_wars r_wet r_day r_drawn k_t_kinds k_t_holds k_t_barred k_t_parties k_t_size k_p_numbers k_p_size k_firms k_tied k_wars k_wet k_day k_drawn f_depths f_bars f_ways d_letters d_t_kinds d_t_holds d_t_barred d_t_parties d_t_size d_size d_at s_lanes s_sizes s_items isKept m_lane m_size m_item m_letters m_tape m_position m_number m_now m_tried m_read m_kept m_isKept m_ways m_wins)) := by
  unfold f_X4_freeAmong at hf
  refine kn_P_steps 4 (f1 := (4, [(3, .int (0 : Int32)), (2, .int (0 : Int32)), (0, .ref 2), (1, .int p1)], [])) (h1 := (kn_hp L xs r_t_kinds r_t_holds r_t_barred r_t_parties r_t_size r_p_numbers r_p_size r_firms r_tied r_wars r_wet r_day r_drawn k_t_kinds k_t_holds k_t_barred k_t_parties k_t_size k_p_numbers k_p_size k_firms k_tied k_wars k_wet k_day k_drawn f_depths f_bars f_ways d_letters d_t_kinds d_t_holds d_t_barred d_t_parties d_t_size d_size d_at s_lanes s_sizes s_items isKept m_lane m_size m_item m_letters m_tape m_position m_number m_now m_tried m_read m_kept m_isKept m_ways m_wins)) (by with_unfolding_all rfl) ?_
  refine kn_P_pick [2, 3, 1, 0] (l1 := [(0, .ref 2), (1, .int p1), (2, .int (0 : Int32)), (3, .int (0 : Int32))]) (by with_unfolding_all rfl) (by with_unfolding_all rfl) ?_
  exact ml_X4_freeAmong_4  300 _ _ _ _ _ hf
set_option maxRecDepth 100000 in
set_option maxHeartbeats 4000000 in
theorem mt_X4_firmBy {p1 : Int32} {p2 : Int32} {p3 : Int32} {r9 : Int32} (hf : f_X4_firmBy r_wet p1 p2 p3 = r9) : kn_Post kn_T km_X4_firmBy (0, [(0, .ref 2), (1, .int p1), (2, .int p2), (3, .int p3)], []) (kn_hp L xs r_t_kinds r_t_holds r_t_barred r_t_parties r_t_size r_p_numbers r_p_size r_firms r_tied r_wars r_wet r_day r_drawn k_t_kinds k_t_holds k_t_barred k_t_parties k_t_size k_p_numbers k_p_size k_firms k_tied k_wars k_wet k_day k_drawn f_depths f_bars f_ways d_letters d_t_kinds d_t_holds d_t_barred d_t_parties d_t_size d_size d_at s_lanes s_sizes s_items isKept m_lane m_size m_item m_letters m_tape m_position m_number m_now m_tried m_read m_kept m_isKept m_ways m_wins) (fun v9 h9 => v9 = some (.int r9) ∧ h9 = (kn_hp L xs r_t_kinds r_t_holds r_t_barred r_t_parties r_t_size r_p_numbers r_p_size r_firms r_tied r_wars r_wet r_day r_drawn k_t_kinds k_t_holds k_t_barred k_t_parties k_t_size k_p_numbers k_p_size k_firms k_tied k_wars k_wet k_day k_drawn f_depths f_bars f_ways d_letters d_t_kinds d_t_holds d_t_barred d_t_parties d_t_size d_size d_at s_lanes s_sizes s_items isKept m_lane m_size m_item m_letters m_tape m_position m_number m_now m_tried m_read m_kept m_isKept m_ways m_wins)) := by
  unfold f_X4_firmBy at hf
  refine kn_P_steps 3 (f1 := (5, [(0, .ref 2), (1, .int p1), (2, .int p2), (3, .int p3)], [.int (1 : Int32), .int r_wet])) (h1 := (kn_hp L xs r_t_kinds r_t_holds r_t_barred r_t_parties r_t_size r_p_numbers r_p_size r_firms r_tied r_wars r_wet r_day r_drawn k_t_kinds k_t_holds k_t_barred k_t_parties k_t_size k_p_numbers k_p_size k_firms k_tied k_wars k_wet k_day k_drawn f_depths f_bars f_ways d_letters d_t_kinds d_t_holds d_t_barred d_t_parties d_t_size d_size d_at s_lanes s_sizes s_items isKept m_lane m_size m_item m_letters m_tape m_position m_number m_now m_tried m_read m_kept m_isKept m_ways m_wins)) (by with_unfolding_all rfl) ?_
  refine kn_Q_if (c := r_wet = (1 : Int32)) (t := 8) (n := 14) (l1 := [(0, .ref 2), (1, .int p1), (2, .int p2), (3, .int p3)]) (s1 := []) (by with_unfolding_all rfl) (fun hc1 => ?_) (fun hc1 => ?_)
  · rw [if_pos hc1] at hf
    refine kn_P_steps 6 (f1 := (18, [(4, .int ((2 : Int32) * p2)), (0, .ref 2), (1, .int p1), (2, .int p2), (3, .int p3)], [.int p1])) (h1 := (kn_hp L xs r_t_kinds r_t_holds r_t_barred r_t_parties r_t_size r_p_numbers r_p_size r_firms r_tied r_wars r_wet r_day r_drawn k_t_kinds k_t_holds k_t_barred k_t_parties k_t_size k_p_numbers k_p_size k_firms k_tied k_wars k_wet k_day k_drawn f_depths f_bars f_ways d_letters d_t_kinds d_t_holds d_t_barred d_t_parties d_t_size d_size d_at s_lanes s_sizes s_items isKept m_lane m_size m_item m_letters m_tape m_position m_number m_now m_tried m_read m_kept m_isKept m_ways m_wins)) (by with_unfolding_all rfl) ?_
    by_cases hc2 : p1 = (0 : Int32)
    · rw [if_pos hc2] at hf
      refine kn_Q_tab (x := p1) (kk := (0 : Int32)) (lo := 0) (hi := 4) (d := 90) (ts := [90, 52, 58, 63, 74]) (t := 90) (l := [(4, .int ((2 : Int32) * p2)), (0, .ref 2), (1, .int p1), (2, .int p2), (3, .int p3)]) (r := []) (by with_unfolding_all rfl) hc2 (by with_unfolding_all rfl) ?_
      refine kn_P_steps 1 (f1 := (92, [(4, .int ((2 : Int32) * p2)), (0, .ref 2), (1, .int p1), (2, .int p2), (3, .int p3)], [.int ((2 : Int32) * p2)])) (h1 := (kn_hp L xs r_t_kinds r_t_holds r_t_barred r_t_parties r_t_size r_p_numbers r_p_size r_firms r_tied r_wars r_wet r_day r_drawn k_t_kinds k_t_holds k_t_barred k_t_parties k_t_size k_p_numbers k_p_size k_firms k_tied k_wars k_wet k_day k_drawn f_depths f_bars f_ways d_letters d_t_kinds d_t_holds d_t_barred d_t_parties d_t_size d_size d_at s_lanes s_sizes s_items isKept m_lane m_size m_item m_letters m_tape m_position m_number m_now m_tried m_read m_kept m_isKept m_ways m_wins)) (by with_unfolding_all rfl) ?_
      subst hf
      exact kn_Q_ret (v := some (.int ((2 : Int32) * p2))) (by with_unfolding_all rfl) ⟨rfl, rfl⟩
    · rw [if_neg hc2] at hf
      by_cases hc3 : p1 = (1 : Int32)
      · rw [if_pos hc3] at hf
        refine kn_Q_tab (x := p1) (kk := (1 : Int32)) (lo := 0) (hi := 4) (d := 90) (ts := [90, 52, 58, 63, 74]) (t := 52) (l := [(4, .int ((2 : Int32) * p2)), (0, .ref 2), (1, .int p1), (2, .int p2), (3, .int p3)]) (r := []) (by with_unfolding_all rfl) hc3 (by with_unfolding_all rfl) ?_
        refine kn_P_steps 3 (f1 := (57, [(4, .int ((2 : Int32) * p2)), (0, .ref 2), (1, .int p1), (2, .int p2), (3, .int p3)], [.int (((2 : Int32) * p2) + (10 : Int32))])) (h1 := (kn_hp L xs r_t_kinds r_t_holds r_t_barred r_t_parties r_t_size r_p_numbers r_p_size r_firms r_tied r_wars r_wet r_day r_drawn k_t_kinds k_t_holds k_t_barred k_t_parties k_t_size k_p_numbers k_p_size k_firms k_tied k_wars k_wet k_day k_drawn f_depths f_bars f_ways d_letters d_t_kinds d_t_holds d_t_barred d_t_parties d_t_size d_size d_at s_lanes s_sizes s_items isKept m_lane m_size m_item m_letters m_tape m_position m_number m_now m_tried m_read m_kept m_isKept m_ways m_wins)) (by with_unfolding_all rfl) ?_
        subst hf
        exact kn_Q_ret (v := some (.int (((2 : Int32) * p2) + (10 : Int32)))) (by with_unfolding_all rfl) ⟨rfl, rfl⟩
      · rw [if_neg hc3] at hf
        by_cases hc4 : p1 = (2 : Int32)
        · rw [if_pos hc4] at hf
          refine kn_Q_tab (x := p1) (kk := (2 : Int32)) (lo := 0) (hi := 4) (d := 90) (ts := [90, 52, 58, 63, 74]) (t := 58) (l := [(4, .int ((2 : Int32) * p2)), (0, .ref 2), (1, .int p1), (2, .int p2), (3, .int p3)]) (r := []) (by with_unfolding_all rfl) hc4 (by with_unfolding_all rfl) ?_
          refine kn_P_steps 3 (f1 := (62, [(4, .int ((2 : Int32) * p2)), (0, .ref 2), (1, .int p1), (2, .int p2), (3, .int p3)], [.int (((2 : Int32) * p2) / (2 : Int32))])) (h1 := (kn_hp L xs r_t_kinds r_t_holds r_t_barred r_t_parties r_t_size r_p_numbers r_p_size r_firms r_tied r_wars r_wet r_day r_drawn k_t_kinds k_t_holds k_t_barred k_t_parties k_t_size k_p_numbers k_p_size k_firms k_tied k_wars k_wet k_day k_drawn f_depths f_bars f_ways d_letters d_t_kinds d_t_holds d_t_barred d_t_parties d_t_size d_size d_at s_lanes s_sizes s_items isKept m_lane m_size m_item m_letters m_tape m_position m_number m_now m_tried m_read m_kept m_isKept m_ways m_wins)) (by with_unfolding_all rfl) ?_
          subst hf
          exact kn_Q_ret (v := some (.int (((2 : Int32) * p2) / (2 : Int32)))) (by with_unfolding_all rfl) ⟨rfl, rfl⟩
        · rw [if_neg hc4] at hf
          by_cases hc5 : p1 = (3 : Int32)
          · rw [if_pos hc5] at hf
            refine kn_Q_tab (x := p1) (kk := (3 : Int32)) (lo := 0) (hi := 4) (d := 90) (ts := [90, 52, 58, 63, 74]) (t := 63) (l := [(4, .int ((2 : Int32) * p2)), (0, .ref 2), (1, .int p1), (2, .int p2), (3, .int p3)]) (r := []) (by with_unfolding_all rfl) hc5 (by with_unfolding_all rfl) ?_
            refine kn_P_steps 7 (f1 := (73, [(4, .int ((2 : Int32) * p2)), (0, .ref 2), (1, .int p1), (2, .int p2), (3, .int p3)], [.int ((((2 : Int32) * p2) + (10 : Int32)) + (p3 / (10 : Int32)))])) (h1 := (kn_hp L xs r_t_kinds r_t_holds r_t_barred r_t_parties r_t_size r_p_numbers r_p_size r_firms r_tied r_wars r_wet r_day r_drawn k_t_kinds k_t_holds k_t_barred k_t_parties k_t_size k_p_numbers k_p_size k_firms k_tied k_wars k_wet k_day k_drawn f_depths f_bars f_ways d_letters d_t_kinds d_t_holds d_t_barred d_t_parties d_t_size d_size d_at s_lanes s_sizes s_items isKept m_lane m_size m_item m_letters m_tape m_position m_number m_now m_tried m_read m_kept m_isKept m_ways m_wins)) (by with_unfolding_all rfl) ?_
            subst hf
            exact kn_Q_ret (v := some (.int ((((2 : Int32) * p2) + (10 : Int32)) + (p3 / (10 : Int32))))) (by with_unfolding_all rfl) ⟨rfl, rfl⟩
          · rw [if_neg hc5] at hf
            by_cases hc6 : p1 = (4 : Int32)
            · rw [if_pos hc6] at hf
              refine kn_Q_tab (x := p1) (kk := (4 : Int32)) (lo := 0) (hi := 4) (d := 90) (ts := [90, 52, 58, 63, 74]) (t := 74) (l := [(4, .int ((2 : Int32) * p2)), (0, .ref 2), (1, .int p1), (2, .int p2), (3, .int p3)]) (r := []) (by with_unfolding_all rfl) hc6 (by with_unfolding_all rfl) ?_
              refine kn_P_steps 3 (f1 := (78, [(4, .int ((2 : Int32) * p2)), (0, .ref 2), (1, .int p1), (2, .int p2), (3, .int p3)], [.int (p3 - p3 / (7 : Int32) * (7 : Int32))])) (h1 := (kn_hp L xs r_t_kinds r_t_holds r_t_barred r_t_parties r_t_size r_p_numbers r_p_size r_firms r_tied r_wars r_wet r_day r_drawn k_t_kinds k_t_holds k_t_barred k_t_parties k_t_size k_p_numbers k_p_size k_firms k_tied k_wars k_wet k_day k_drawn f_depths f_bars f_ways d_letters d_t_kinds d_t_holds d_t_barred d_t_parties d_t_size d_size d_at s_lanes s_sizes s_items isKept m_lane m_size m_item m_letters m_tape m_position m_number m_now m_tried m_read m_kept m_isKept m_ways m_wins)) (by with_unfolding_all rfl) ?_
              refine kn_Q_if (c := (p3 - p3 / (7 : Int32) * (7 : Int32)) = (0 : Int32)) (t := 81) (n := 85) (l1 := [(4, .int ((2 : Int32) * p2)), (0, .ref 2), (1, .int p1), (2, .int p2), (3, .int p3)]) (s1 := []) (by with_unfolding_all rfl) (fun hc7 => ?_) (fun hc7 => ?_)
              · rw [if_pos hc7] at hf
                refine kn_P_steps 2 (f1 := (89, [(4, .int ((2 : Int32) * p2)), (0, .ref 2), (1, .int p1), (2, .int p2), (3, .int p3)], [.int (0 : Int32)])) (h1 := (kn_hp L xs r_t_kinds r_t_holds r_t_barred r_t_parties r_t_size r_p_numbers r_p_size r_firms r_tied r_wars r_wet r_day r_drawn k_t_kinds k_t_holds k_t_barred k_t_parties k_t_size k_p_numbers k_p_size k_firms k_tied k_wars k_wet k_day k_drawn f_depths f_bars f_ways d_letters d_t_kinds d_t_holds d_t_barred d_t_parties d_t_size d_size d_at s_lanes s_sizes s_items isKept m_lane m_size m_item m_letters m_tape m_position m_number m_now m_tried m_read m_kept m_isKept m_ways m_wins)) (by with_unfolding_all rfl) ?_
                subst hf
                exact kn_Q_ret (v := some (.int (0 : Int32))) (by with_unfolding_all rfl) ⟨rfl, rfl⟩
              · rw [if_neg hc7] at hf
                refine kn_P_steps 3 (f1 := (89, [(4, .int ((2 : Int32) * p2)), (0, .ref 2), (1, .int p1), (2, .int p2), (3, .int p3)], [.int (((2 : Int32) * p2) / (2 : Int32))])) (h1 := (kn_hp L xs r_t_kinds r_t_holds r_t_barred r_t_parties r_t_size r_p_numbers r_p_size r_firms r_tied r_wars r_wet r_day r_drawn k_t_kinds k_t_holds k_t_barred k_t_parties k_t_size k_p_numbers k_p_size k_firms k_tied k_wars k_wet k_day k_drawn f_depths f_bars f_ways d_letters d_t_kinds d_t_holds d_t_barred d_t_parties d_t_size d_size d_at s_lanes s_sizes s_items isKept m_lane m_size m_item m_letters m_tape m_position m_number m_now m_tried m_read m_kept m_isKept m_ways m_wins)) (by with_unfolding_all rfl) ?_
                subst hf
                exact kn_Q_ret (v := some (.int (((2 : Int32) * p2) / (2 : Int32)))) (by with_unfolding_all rfl) ⟨rfl, rfl⟩
            · rw [if_neg hc6] at hf
              refine kn_Q_tabN (x := p1) (lo := 0) (hi := 4) (ts := [90, 52, 58, 63, 74]) (d := 90) (l := [(4, .int ((2 : Int32) * p2)), (0, .ref 2), (1, .int p1), (2, .int p2), (3, .int p3)]) (r := []) (by with_unfolding_all rfl) (kn_tab_out (0) (4) 5 (by decide) (fun j hj => match j, hj with
                | 0, _ => hc2
                | 1, _ => hc3
                | 2, _ => hc4
                | 3, _ => hc5
                | 4, _ => hc6
                | j + 5, hj => absurd hj (by omega))) ?_
              refine kn_P_steps 1 (f1 := (92, [(4, .int ((2 : Int32) * p2)), (0, .ref 2), (1, .int p1), (2, .int p2), (3, .int p3)], [.int ((2 : Int32) * p2)])) (h1 := (kn_hp L xs r_t_kinds r_t_holds r_t_barred r_t_parties r_t_size r_p_numbers r_p_size r_firms r_tied r_wars r_wet r_day r_drawn k_t_kinds k_t_holds k_t_barred k_t_parties k_t_size k_p_numbers k_p_size k_firms k_tied k_wars k_wet k_day k_drawn f_depths f_bars f_ways d_letters d_t_kinds d_t_holds d_t_barred d_t_parties d_t_size d_size d_at s_lanes s_sizes s_items isKept m_lane m_size m_item m_letters m_tape m_position m_number m_now m_tried m_read m_kept m_isKept m_ways m_wins)) (by with_unfolding_all rfl) ?_
              subst hf
              exact kn_Q_ret (v := some (.int ((2 : Int32) * p2))) (by with_unfolding_all rfl) ⟨rfl, rfl⟩
  · rw [if_neg hc1] at hf
    refine kn_P_steps 3 (f1 := (18, [(4, .int p2), (0, .ref 2), (1, .int p1), (2, .int p2), (3, .int p3)], [.int p1])) (h1 := (kn_hp L xs r_t_kinds r_t_holds r_t_barred r_t_parties r_t_size r_p_numbers r_p_size r_firms r_tied r_wars r_wet r_day r_drawn k_t_kinds k_t_holds k_t_barred k_t_parties k_t_size k_p_numbers k_p_size k_firms k_tied k_wars k_wet k_day k_drawn f_depths f_bars f_ways d_letters d_t_kinds d_t_holds d_t_barred d_t_parties d_t_size d_size d_at s_lanes s_sizes s_items isKept m_lane m_size m_item m_letters m_tape m_position m_number m_now m_tried m_read m_kept m_isKept m_ways m_wins)) (by with_unfolding_all rfl) ?_
    by_cases hc8 : p1 = (0 : Int32)
    · rw [if_pos hc8] at hf
      refine kn_Q_tab (x := p1) (kk := (0 : Int32)) (lo := 0) (hi := 4) (d := 90) (ts := [90, 52, 58, 63, 74]) (t := 90) (l := [(4, .int p2), (0, .ref 2), (1, .int p1), (2, .int p2), (3, .int p3)]) (r := []) (by with_unfolding_all rfl) hc8 (by with_unfolding_all rfl) ?_
      refine kn_P_steps 1 (f1 := (92, [(4, .int p2), (0, .ref 2), (1, .int p1), (2, .int p2), (3, .int p3)], [.int p2])) (h1 := (kn_hp L xs r_t_kinds r_t_holds r_t_barred r_t_parties r_t_size r_p_numbers r_p_size r_firms r_tied r_wars r_wet r_day r_drawn k_t_kinds k_t_holds k_t_barred k_t_parties k_t_size k_p_numbers k_p_size k_firms k_tied k_wars k_wet k_day k_drawn f_depths f_bars f_ways d_letters d_t_kinds d_t_holds d_t_barred d_t_parties d_t_size d_size d_at s_lanes s_sizes s_items isKept m_lane m_size m_item m_letters m_tape m_position m_number m_now m_tried m_read m_kept m_isKept m_ways m_wins)) (by with_unfolding_all rfl) ?_
      subst hf
      exact kn_Q_ret (v := some (.int p2)) (by with_unfolding_all rfl) ⟨rfl, rfl⟩
    · rw [if_neg hc8] at hf
      by_cases hc9 : p1 = (1 : Int32)
      · rw [if_pos hc9] at hf
        refine kn_Q_tab (x := p1) (kk := (1 : Int32)) (lo := 0) (hi := 4) (d := 90) (ts := [90, 52, 58, 63, 74]) (t := 52) (l := [(4, .int p2), (0, .ref 2), (1, .int p1), (2, .int p2), (3, .int p3)]) (r := []) (by with_unfolding_all rfl) hc9 (by with_unfolding_all rfl) ?_
        refine kn_P_steps 3 (f1 := (57, [(4, .int p2), (0, .ref 2), (1, .int p1), (2, .int p2), (3, .int p3)], [.int (p2 + (10 : Int32))])) (h1 := (kn_hp L xs r_t_kinds r_t_holds r_t_barred r_t_parties r_t_size r_p_numbers r_p_size r_firms r_tied r_wars r_wet r_day r_drawn k_t_kinds k_t_holds k_t_barred k_t_parties k_t_size k_p_numbers k_p_size k_firms k_tied k_wars k_wet k_day k_drawn f_depths f_bars f_ways d_letters d_t_kinds d_t_holds d_t_barred d_t_parties d_t_size d_size d_at s_lanes s_sizes s_items isKept m_lane m_size m_item m_letters m_tape m_position m_number m_now m_tried m_read m_kept m_isKept m_ways m_wins)) (by with_unfolding_all rfl) ?_
        subst hf
        exact kn_Q_ret (v := some (.int (p2 + (10 : Int32)))) (by with_unfolding_all rfl) ⟨rfl, rfl⟩
      · rw [if_neg hc9] at hf
        by_cases hc10 : p1 = (2 : Int32)
        · rw [if_pos hc10] at hf
          refine kn_Q_tab (x := p1) (kk := (2 : Int32)) (lo := 0) (hi := 4) (d := 90) (ts := [90, 52, 58, 63, 74]) (t := 58) (l := [(4, .int p2), (0, .ref 2), (1, .int p1), (2, .int p2), (3, .int p3)]) (r := []) (by with_unfolding_all rfl) hc10 (by with_unfolding_all rfl) ?_
          refine kn_P_steps 3 (f1 := (62, [(4, .int p2), (0, .ref 2), (1, .int p1), (2, .int p2), (3, .int p3)], [.int (p2 / (2 : Int32))])) (h1 := (kn_hp L xs r_t_kinds r_t_holds r_t_barred r_t_parties r_t_size r_p_numbers r_p_size r_firms r_tied r_wars r_wet r_day r_drawn k_t_kinds k_t_holds k_t_barred k_t_parties k_t_size k_p_numbers k_p_size k_firms k_tied k_wars k_wet k_day k_drawn f_depths f_bars f_ways d_letters d_t_kinds d_t_holds d_t_barred d_t_parties d_t_size d_size d_at s_lanes s_sizes s_items isKept m_lane m_size m_item m_letters m_tape m_position m_number m_now m_tried m_read m_kept m_isKept m_ways m_wins)) (by with_unfolding_all rfl) ?_
          subst hf
          exact kn_Q_ret (v := some (.int (p2 / (2 : Int32)))) (by with_unfolding_all rfl) ⟨rfl, rfl⟩
        · rw [if_neg hc10] at hf
          by_cases hc11 : p1 = (3 : Int32)
          · rw [if_pos hc11] at hf
            refine kn_Q_tab (x := p1) (kk := (3 : Int32)) (lo := 0) (hi := 4) (d := 90) (ts := [90, 52, 58, 63, 74]) (t := 63) (l := [(4, .int p2), (0, .ref 2), (1, .int p1), (2, .int p2), (3, .int p3)]) (r := []) (by with_unfolding_all rfl) hc11 (by with_unfolding_all rfl) ?_
            refine kn_P_steps 7 (f1 := (73, [(4, .int p2), (0, .ref 2), (1, .int p1), (2, .int p2), (3, .int p3)], [.int ((p2 + (10 : Int32)) + (p3 / (10 : Int32)))])) (h1 := (kn_hp L xs r_t_kinds r_t_holds r_t_barred r_t_parties r_t_size r_p_numbers r_p_size r_firms r_tied r_wars r_wet r_day r_drawn k_t_kinds k_t_holds k_t_barred k_t_parties k_t_size k_p_numbers k_p_size k_firms k_tied k_wars k_wet k_day k_drawn f_depths f_bars f_ways d_letters d_t_kinds d_t_holds d_t_barred d_t_parties d_t_size d_size d_at s_lanes s_sizes s_items isKept m_lane m_size m_item m_letters m_tape m_position m_number m_now m_tried m_read m_kept m_isKept m_ways m_wins)) (by with_unfolding_all rfl) ?_
            subst hf
            exact kn_Q_ret (v := some (.int ((p2 + (10 : Int32)) + (p3 / (10 : Int32))))) (by with_unfolding_all rfl) ⟨rfl, rfl⟩
          · rw [if_neg hc11] at hf
            by_cases hc12 : p1 = (4 : Int32)
            · rw [if_pos hc12] at hf
              refine kn_Q_tab (x := p1) (kk := (4 : Int32)) (lo := 0) (hi := 4) (d := 90) (ts := [90, 52, 58, 63, 74]) (t := 74) (l := [(4, .int p2), (0, .ref 2), (1, .int p1), (2, .int p2), (3, .int p3)]) (r := []) (by with_unfolding_all rfl) hc12 (by with_unfolding_all rfl) ?_
              refine kn_P_steps 3 (f1 := (78, [(4, .int p2), (0, .ref 2), (1, .int p1), (2, .int p2), (3, .int p3)], [.int (p3 - p3 / (7 : Int32) * (7 : Int32))])) (h1 := (kn_hp L xs r_t_kinds r_t_holds r_t_barred r_t_parties r_t_size r_p_numbers r_p_size r_firms r_tied r_wars r_wet r_day r_drawn k_t_kinds k_t_holds k_t_barred k_t_parties k_t_size k_p_numbers k_p_size k_firms k_tied k_wars k_wet k_day k_drawn f_depths f_bars f_ways d_letters d_t_kinds d_t_holds d_t_barred d_t_parties d_t_size d_size d_at s_lanes s_sizes s_items isKept m_lane m_size m_item m_letters m_tape m_position m_number m_now m_tried m_read m_kept m_isKept m_ways m_wins)) (by with_unfolding_all rfl) ?_
              refine kn_Q_if (c := (p3 - p3 / (7 : Int32) * (7 : Int32)) = (0 : Int32)) (t := 81) (n := 85) (l1 := [(4, .int p2), (0, .ref 2), (1, .int p1), (2, .int p2), (3, .int p3)]) (s1 := []) (by with_unfolding_all rfl) (fun hc13 => ?_) (fun hc13 => ?_)
              · rw [if_pos hc13] at hf
                refine kn_P_steps 2 (f1 := (89, [(4, .int p2), (0, .ref 2), (1, .int p1), (2, .int p2), (3, .int p3)], [.int (0 : Int32)])) (h1 := (kn_hp L xs r_t_kinds r_t_holds r_t_barred r_t_parties r_t_size r_p_numbers r_p_size r_firms r_tied r_wars r_wet r_day r_drawn k_t_kinds k_t_holds k_t_barred k_t_parties k_t_size k_p_numbers k_p_size k_firms k_tied k_wars k_wet k_day k_drawn f_depths f_bars f_ways d_letters d_t_kinds d_t_holds d_t_barred d_t_parties d_t_size d_size d_at s_lanes s_sizes s_items isKept m_lane m_size m_item m_letters m_tape m_position m_number m_now m_tried m_read m_kept m_isKept m_ways m_wins)) (by with_unfolding_all rfl) ?_
                subst hf
                exact kn_Q_ret (v := some (.int (0 : Int32))) (by with_unfolding_all rfl) ⟨rfl, rfl⟩
              · rw [if_neg hc13] at hf
                refine kn_P_steps 3 (f1 := (89, [(4, .int p2), (0, .ref 2), (1, .int p1), (2, .int p2), (3, .int p3)], [.int (p2 / (2 : Int32))])) (h1 := (kn_hp L xs r_t_kinds r_t_holds r_t_barred r_t_parties r_t_size r_p_numbers r_p_size r_firms r_tied r_wars r_wet r_day r_drawn k_t_kinds k_t_holds k_t_barred k_t_parties k_t_size k_p_numbers k_p_size k_firms k_tied k_wars k_wet k_day k_drawn f_depths f_bars f_ways d_letters d_t_kinds d_t_holds d_t_barred d_t_parties d_t_size d_size d_at s_lanes s_sizes s_items isKept m_lane m_size m_item m_letters m_tape m_position m_number m_now m_tried m_read m_kept m_isKept m_ways m_wins)) (by with_unfolding_all rfl) ?_
                subst hf
                exact kn_Q_ret (v := some (.int (p2 / (2 : Int32)))) (by with_unfolding_all rfl) ⟨rfl, rfl⟩
            · rw [if_neg hc12] at hf
              refine kn_Q_tabN (x := p1) (lo := 0) (hi := 4) (ts := [90, 52, 58, 63, 74]) (d := 90) (l := [(4, .int p2), (0, .ref 2), (1, .int p1), (2, .int p2), (3, .int p3)]) (r := []) (by with_unfolding_all rfl) (kn_tab_out (0) (4) 5 (by decide) (fun j hj => match j, hj with
                | 0, _ => hc8
                | 1, _ => hc9
                | 2, _ => hc10
                | 3, _ => hc11
                | 4, _ => hc12
                | j + 5, hj => absurd hj (by omega))) ?_
              refine kn_P_steps 1 (f1 := (92, [(4, .int p2), (0, .ref 2), (1, .int p1), (2, .int p2), (3, .int p3)], [.int p2])) (h1 := (kn_hp L xs r_t_kinds r_t_holds r_t_barred r_t_parties r_t_size r_p_numbers r_p_size r_firms r_tied r_wars r_wet r_day r_drawn k_t_kinds k_t_holds k_t_barred k_t_parties k_t_size k_p_numbers k_p_size k_firms k_tied k_wars k_wet k_day k_drawn f_depths f_bars f_ways d_letters d_t_kinds d_t_holds d_t_barred d_t_parties d_t_size d_size d_at s_lanes s_sizes s_items isKept m_lane m_size m_item m_letters m_tape m_position m_number m_now m_tried m_read m_kept m_isKept m_ways m_wins)) (by with_unfolding_all rfl) ?_
              subst hf
              exact kn_Q_ret (v := some (.int p2)) (by with_unfolding_all rfl) ⟨rfl, rfl⟩
set_option maxRecDepth 100000 in
set_option maxHeartbeats 4000000 in
theorem mt_X4_firmOnDay {p1 : Int32} {p2 : Int32} {r9 : Int32} (hf : f_X4_firmOnDay r_t_kinds r_t_holds r_wet p1 p2 = some r9) : kn_Post kn_T km_X4_firmOnDay (0, [(0, .ref 2), (1, .int p1), (2, .int p2)], []) (kn_hp L xs r_t_kinds r_t_holds r_t_barred r_t_parties r_t_size r_p_numbers r_p_size r_firms r_tied r_wars r_wet r_day r_drawn k_t_kinds k_t_holds k_t_barred k_t_parties k_t_size k_p_numbers k_p_size k_firms k_tied k_wars k_wet k_day k_drawn f_depths f_bars f_ways d_letters d_t_kinds d_t_holds d_t_barred d_t_parties d_t_size d_size d_at s_lanes s_sizes s_items isKept m_lane m_size m_item m_letters m_tape m_position m_number m_now m_tried m_read m_kept m_isKept m_ways m_wins) (fun v9 h9 => v9 = some (.int r9) ∧ h9 = (kn_hp L xs r_t_kinds r_t_holds r_t_barred r_t_parties r_t_size r_p_numbers r_p_size r_firms r_tied r_wars r_wet r_day r_drawn k_t_kinds k_t_holds k_t_barred k_t_parties k_t_size k_p_numbers k_p_size k_firms k_tied k_wars k_wet k_day k_drawn f_depths f_bars f_ways d_letters d_t_kinds d_t_holds d_t_barred d_t_parties d_t_size d_size d_at s_lanes s_sizes s_items isKept m_lane m_size m_item m_letters m_tape m_position m_number m_now m_tried m_read m_kept m_isKept m_ways m_wins)) := by
  unfold f_X4_firmOnDay at hf
  refine kn_P_steps 5 (f1 := (9, [(0, .ref 2), (1, .int p1), (2, .int p2)], [.int p1, .ref 4, .ref 2])) (h1 := (kn_hp L xs r_t_kinds r_t_holds r_t_barred r_t_parties r_t_size r_p_numbers r_p_size r_firms r_tied r_wars r_wet r_day r_drawn k_t_kinds k_t_holds k_t_barred k_t_parties k_t_size k_p_numbers k_p_size k_firms k_tied k_wars k_wet k_day k_drawn f_depths f_bars f_ways d_letters d_t_kinds d_t_holds d_t_barred d_t_parties d_t_size d_size d_at s_lanes s_sizes s_items isKept m_lane m_size m_item m_letters m_tape m_position m_number m_now m_tried m_read m_kept m_isKept m_ways m_wins)) (by with_unfolding_all rfl) ?_
  by_cases hb1 : p1 < 0 ∨ 8 ≤ (p1).toNatClampNeg
  · rw [if_pos hb1] at hf; cases hf
  · rw [if_neg hb1] at hf
    refine kn_Q_ok (c := p1 < 0 ∨ 8 ≤ (p1).toNatClampNeg) (t := 10) (l1 := [(0, .ref 2), (1, .int p1), (2, .int p2)]) (s1 := [.int (r_t_kinds (p1).toNatClampNeg), .ref 2]) (h1 := (kn_hp L xs r_t_kinds r_t_holds r_t_barred r_t_parties r_t_size r_p_numbers r_p_size r_firms r_tied r_wars r_wet r_day r_drawn k_t_kinds k_t_holds k_t_barred k_t_parties k_t_size k_p_numbers k_p_size k_firms k_tied k_wars k_wet k_day k_drawn f_depths f_bars f_ways d_letters d_t_kinds d_t_holds d_t_barred d_t_parties d_t_size d_size d_at s_lanes s_sizes s_items isKept m_lane m_size m_item m_letters m_tape m_position m_number m_now m_tried m_read m_kept m_isKept m_ways m_wins)) (by with_unfolding_all rfl) hb1 ?_
    refine kn_P_steps 4 (f1 := (18, [(0, .ref 2), (1, .int p1), (2, .int p2)], [.int p1, .ref 5, .int (r_t_kinds (p1).toNatClampNeg), .ref 2])) (h1 := (kn_hp L xs r_t_kinds r_t_holds r_t_barred r_t_parties r_t_size r_p_numbers r_p_size r_firms r_tied r_wars r_wet r_day r_drawn k_t_kinds k_t_holds k_t_barred k_t_parties k_t_size k_p_numbers k_p_size k_firms k_tied k_wars k_wet k_day k_drawn f_depths f_bars f_ways d_letters d_t_kinds d_t_holds d_t_barred d_t_parties d_t_size d_size d_at s_lanes s_sizes s_items isKept m_lane m_size m_item m_letters m_tape m_position m_number m_now m_tried m_read m_kept m_isKept m_ways m_wins)) (by with_unfolding_all rfl) ?_
    by_cases hb2 : p1 < 0 ∨ 8 ≤ (p1).toNatClampNeg
    · rw [if_pos hb2] at hf; cases hf
    · rw [if_neg hb2] at hf
      refine kn_Q_ok (c := p1 < 0 ∨ 8 ≤ (p1).toNatClampNeg) (t := 19) (l1 := [(0, .ref 2), (1, .int p1), (2, .int p2)]) (s1 := [.int (r_t_holds (p1).toNatClampNeg), .int (r_t_kinds (p1).toNatClampNeg), .ref 2]) (h1 := (kn_hp L xs r_t_kinds r_t_holds r_t_barred r_t_parties r_t_size r_p_numbers r_p_size r_firms r_tied r_wars r_wet r_day r_drawn k_t_kinds k_t_holds k_t_barred k_t_parties k_t_size k_p_numbers k_p_size k_firms k_tied k_wars k_wet k_day k_drawn f_depths f_bars f_ways d_letters d_t_kinds d_t_holds d_t_barred d_t_parties d_t_size d_size d_at s_lanes s_sizes s_items isKept m_lane m_size m_item m_letters m_tape m_position m_number m_now m_tried m_read m_kept m_isKept m_ways m_wins)) (by with_unfolding_all rfl) hb2 ?_
      refine kn_P_steps 1 (f1 := (20, [(0, .ref 2), (1, .int p1), (2, .int p2)], [.int p2, .int (r_t_holds (p1).toNatClampNeg), .int (r_t_kinds (p1).toNatClampNeg), .ref 2])) (h1 := (kn_hp L xs r_t_kinds r_t_holds r_t_barred r_t_parties r_t_size r_p_numbers r_p_size r_firms r_tied r_wars r_wet r_day r_drawn k_t_kinds k_t_holds k_t_barred k_t_parties k_t_size k_p_numbers k_p_size k_firms k_tied k_wars k_wet k_day k_drawn f_depths f_bars f_ways d_letters d_t_kinds d_t_holds d_t_barred d_t_parties d_t_size d_size d_at s_lanes s_sizes s_items isKept m_lane m_size m_item m_letters m_tape m_position m_number m_now m_tried m_read m_kept m_isKept m_ways m_wins)) (by with_unfolding_all rfl) ?_
      refine kn_Q_call (M1 := km_X4_firmBy) (j := 32) (as := [.ref 2, .int (r_t_kinds (p1).toNatClampNeg), .int (r_t_holds (p1).toNatClampNeg), .int p2]) (f1 := (23, [(0, .ref 2), (1, .int p1), (2, .int p2)], [])) (f0 := (0, [(0, .ref 2), (1, .int (r_t_kinds (p1).toNatClampNeg)), (2, .int (r_t_holds (p1).toNatClampNeg)), (3, .int p2)], [])) (by with_unfolding_all rfl) (by with_unfolding_all rfl) (by with_unfolding_all rfl) (mt_X4_firmBy rfl) (fun v9 h9 q9 => ?_)
      obtain ⟨rfl, rfl⟩ := q9
      replace hf := Option.some.inj hf
      subst hf
      exact kn_Q_ret (v := some (.int (f_X4_firmBy r_wet (r_t_kinds (p1).toNatClampNeg) (r_t_holds (p1).toNatClampNeg) p2))) (by with_unfolding_all rfl) ⟨rfl, rfl⟩
set_option maxRecDepth 100000 in
set_option maxHeartbeats 4000000 in
theorem mt_X4_firmOf {p1 : Int32} {r9 : Int32} (hf : f_X4_firmOf r_t_kinds r_t_holds r_wet r_day p1 = some r9) : kn_Post kn_T km_X4_firmOf (0, [(0, .ref 2), (1, .int p1)], []) (kn_hp L xs r_t_kinds r_t_holds r_t_barred r_t_parties r_t_size r_p_numbers r_p_size r_firms r_tied r_wars r_wet r_day r_drawn k_t_kinds k_t_holds k_t_barred k_t_parties k_t_size k_p_numbers k_p_size k_firms k_tied k_wars k_wet k_day k_drawn f_depths f_bars f_ways d_letters d_t_kinds d_t_holds d_t_barred d_t_parties d_t_size d_size d_at s_lanes s_sizes s_items isKept m_lane m_size m_item m_letters m_tape m_position m_number m_now m_tried m_read m_kept m_isKept m_ways m_wins) (fun v9 h9 => v9 = some (.int r9) ∧ h9 = (kn_hp L xs r_t_kinds r_t_holds r_t_barred r_t_parties r_t_size r_p_numbers r_p_size r_firms r_tied r_wars r_wet r_day r_drawn k_t_kinds k_t_holds k_t_barred k_t_parties k_t_size k_p_numbers k_p_size k_firms k_tied k_wars k_wet k_day k_drawn f_depths f_bars f_ways d_letters d_t_kinds d_t_holds d_t_barred d_t_parties d_t_size d_size d_at s_lanes s_sizes s_items isKept m_lane m_size m_item m_letters m_tape m_position m_number m_now m_tried m_read m_kept m_isKept m_ways m_wins)) := by
  unfold f_X4_firmOf at hf
  refine kn_P_steps 4 (f1 := (6, [(0, .ref 2), (1, .int p1)], [.int r_day, .int p1, .ref 2])) (h1 := (kn_hp L xs r_t_kinds r_t_holds r_t_barred r_t_parties r_t_size r_p_numbers r_p_size r_firms r_tied r_wars r_wet r_day r_drawn k_t_kinds k_t_holds k_t_barred k_t_parties k_t_size k_p_numbers k_p_size k_firms k_tied k_wars k_wet k_day k_drawn f_depths f_bars f_ways d_letters d_t_kinds d_t_holds d_t_barred d_t_parties d_t_size d_size d_at s_lanes s_sizes s_items isKept m_lane m_size m_item m_letters m_tape m_position m_number m_now m_tried m_read m_kept m_isKept m_ways m_wins)) (by with_unfolding_all rfl) ?_
  cases e1 : f_X4_firmOnDay r_t_kinds r_t_holds r_wet p1 r_day with
  | none => rw [e1] at hf; cases hf
  | some q1 =>
    rw [e1] at hf
    dsimp only at hf
    refine kn_Q_call (M1 := km_X4_firmOnDay) (j := 33) (as := [.ref 2, .int p1, .int r_day]) (f1 := (9, [(0, .ref 2), (1, .int p1)], [])) (f0 := (0, [(0, .ref 2), (1, .int p1), (2, .int r_day)], [])) (by with_unfolding_all rfl) (by with_unfolding_all rfl) (by with_unfolding_all rfl) (mt_X4_firmOnDay e1) (fun v9 h9 q9 => ?_)
    obtain ⟨rfl, rfl⟩ := q9
    replace hf := Option.some.inj hf
    subst hf
    exact kn_Q_ret (v := some (.int q1)) (by with_unfolding_all rfl) ⟨rfl, rfl⟩
set_option maxRecDepth 100000 in
set_option maxHeartbeats 4000000 in
theorem mt_X6_of {p1 : Int32} {p2 : Int32} {r9 : Int32} (hf : f_X6_of r_t_kinds r_t_holds r_t_barred r_t_parties r_t_size r_tied r_wet r_day p1 p2 = some r9) : kn_Post kn_T km_X6_of (0, [(0, .ref 1), (1, .int p1), (2, .int p2)], []) (kn_hp L xs r_t_kinds r_t_holds r_t_barred r_t_parties r_t_size r_p_numbers r_p_size r_firms r_tied r_wars r_wet r_day r_drawn k_t_kinds k_t_holds k_t_barred k_t_parties k_t_size k_p_numbers k_p_size k_firms k_tied k_wars k_wet k_day k_drawn f_depths f_bars f_ways d_letters d_t_kinds d_t_holds d_t_barred d_t_parties d_t_size d_size d_at s_lanes s_sizes s_items isKept m_lane m_size m_item m_letters m_tape m_position m_number m_now m_tried m_read m_kept m_isKept m_ways m_wins) (fun v9 h9 => v9 = some (.int r9) ∧ h9 = (kn_hp L xs r_t_kinds r_t_holds r_t_barred r_t_parties r_t_size r_p_numbers r_p_size r_firms r_tied r_wars r_wet r_day r_drawn k_t_kinds k_t_holds k_t_barred k_t_parties k_t_size k_p_numbers k_p_size k_firms k_tied k_wars k_wet k_day k_drawn f_depths f_bars f_ways d_letters d_t_kinds d_t_holds d_t_barred d_t_parties d_t_size d_size d_at s_lanes s_sizes s_items isKept m_lane m_size m_item m_letters m_tape m_position m_number m_now m_tried m_read m_kept m_isKept m_ways m_wins)) := by
  unfold f_X6_of at hf
  refine kn_P_steps 2 (f1 := (2, [(0, .ref 1), (1, .int p1), (2, .int p2)], [.int p1, .ref 1])) (h1 := (kn_hp L xs r_t_kinds r_t_holds r_t_barred r_t_parties r_t_size r_p_numbers r_p_size r_firms r_tied r_wars r_wet r_day r_drawn k_t_kinds k_t_holds k_t_barred k_t_parties k_t_size k_p_numbers k_p_size k_firms k_tied k_wars k_wet k_day k_drawn f_depths f_bars f_ways d_letters d_t_kinds d_t_holds d_t_barred d_t_parties d_t_size d_size d_at s_lanes s_sizes s_items isKept m_lane m_size m_item m_letters m_tape m_position m_number m_now m_tried m_read m_kept m_isKept m_ways m_wins)) (by with_unfolding_all rfl) ?_
  refine kn_Q_call (M1 := km_X6_isClause) (j := 96) (as := [.ref 1, .int p1]) (f1 := (5, [(0, .ref 1), (1, .int p1), (2, .int p2)], [])) (f0 := (0, [(0, .ref 1), (1, .int p1)], [])) (by with_unfolding_all rfl) (by with_unfolding_all rfl) (by with_unfolding_all rfl) (mt_X6_isClause rfl) (fun v9 h9 q9 => ?_)
  obtain ⟨rfl, rfl, hz1⟩ := q9
  refine kn_Q_if (c := (f_X6_isClause r_t_size p1) = (0 : Int32)) (t := 8) (n := 10) (l1 := [(0, .ref 1), (1, .int p1), (2, .int p2)]) (s1 := []) (by with_unfolding_all rfl) (fun hc2 => ?_) (fun hc2 => ?_)
  · rw [if_pos hc2] at hf
    refine kn_P_steps 1 (f1 := (9, [(0, .ref 1), (1, .int p1), (2, .int p2)], [.int (-1 : Int32)])) (h1 := (kn_hp L xs r_t_kinds r_t_holds r_t_barred r_t_parties r_t_size r_p_numbers r_p_size r_firms r_tied r_wars r_wet r_day r_drawn k_t_kinds k_t_holds k_t_barred k_t_parties k_t_size k_p_numbers k_p_size k_firms k_tied k_wars k_wet k_day k_drawn f_depths f_bars f_ways d_letters d_t_kinds d_t_holds d_t_barred d_t_parties d_t_size d_size d_at s_lanes s_sizes s_items isKept m_lane m_size m_item m_letters m_tape m_position m_number m_now m_tried m_read m_kept m_isKept m_ways m_wins)) (by with_unfolding_all rfl) ?_
    replace hf := Option.some.inj hf
    subst hf
    exact kn_Q_ret (v := some (.int (-1 : Int32))) (by with_unfolding_all rfl) ⟨rfl, rfl⟩
  · rw [if_neg hc2] at hf
    refine kn_P_steps 1 (f1 := (11, [(0, .ref 1), (1, .int p1), (2, .int p2)], [.int p2])) (h1 := (kn_hp L xs r_t_kinds r_t_holds r_t_barred r_t_parties r_t_size r_p_numbers r_p_size r_firms r_tied r_wars r_wet r_day r_drawn k_t_kinds k_t_holds k_t_barred k_t_parties k_t_size k_p_numbers k_p_size k_firms k_tied k_wars k_wet k_day k_drawn f_depths f_bars f_ways d_letters d_t_kinds d_t_holds d_t_barred d_t_parties d_t_size d_size d_at s_lanes s_sizes s_items isKept m_lane m_size m_item m_letters m_tape m_position m_number m_now m_tried m_read m_kept m_isKept m_ways m_wins)) (by with_unfolding_all rfl) ?_
    by_cases hc3 : p2 = (0 : Int32)
    · rw [if_pos hc3] at hf
      refine kn_Q_tab (x := p2) (kk := (0 : Int32)) (lo := 0) (hi := 6) (d := 160) (ts := [52, 65, 78, 91, 104, 124, 151]) (t := 52) (l := [(0, .ref 1), (1, .int p1), (2, .int p2)]) (r := []) (by with_unfolding_all rfl) hc3 (by with_unfolding_all rfl) ?_
      refine kn_P_steps 5 (f1 := (63, [(0, .ref 1), (1, .int p1), (2, .int p2)], [.int p1, .ref 4])) (h1 := (kn_hp L xs r_t_kinds r_t_holds r_t_barred r_t_parties r_t_size r_p_numbers r_p_size r_firms r_tied r_wars r_wet r_day r_drawn k_t_kinds k_t_holds k_t_barred k_t_parties k_t_size k_p_numbers k_p_size k_firms k_tied k_wars k_wet k_day k_drawn f_depths f_bars f_ways d_letters d_t_kinds d_t_holds d_t_barred d_t_parties d_t_size d_size d_at s_lanes s_sizes s_items isKept m_lane m_size m_item m_letters m_tape m_position m_number m_now m_tried m_read m_kept m_isKept m_ways m_wins)) (by with_unfolding_all rfl) ?_
      by_cases hb4 : p1 < 0 ∨ 8 ≤ (p1).toNatClampNeg
      · rw [if_pos hb4] at hf; cases hf
      · rw [if_neg hb4] at hf
        refine kn_Q_ok (c := p1 < 0 ∨ 8 ≤ (p1).toNatClampNeg) (t := 64) (l1 := [(0, .ref 1), (1, .int p1), (2, .int p2)]) (s1 := [.int (r_t_kinds (p1).toNatClampNeg)]) (h1 := (kn_hp L xs r_t_kinds r_t_holds r_t_barred r_t_parties r_t_size r_p_numbers r_p_size r_firms r_tied r_wars r_wet r_day r_drawn k_t_kinds k_t_holds k_t_barred k_t_parties k_t_size k_p_numbers k_p_size k_firms k_tied k_wars k_wet k_day k_drawn f_depths f_bars f_ways d_letters d_t_kinds d_t_holds d_t_barred d_t_parties d_t_size d_size d_at s_lanes s_sizes s_items isKept m_lane m_size m_item m_letters m_tape m_position m_number m_now m_tried m_read m_kept m_isKept m_ways m_wins)) (by with_unfolding_all rfl) hb4 ?_
        replace hf := Option.some.inj hf
        subst hf
        exact kn_Q_ret (v := some (.int (r_t_kinds (p1).toNatClampNeg))) (by with_unfolding_all rfl) ⟨rfl, rfl⟩
    · rw [if_neg hc3] at hf
      by_cases hc5 : p2 = (1 : Int32)
      · rw [if_pos hc5] at hf
        refine kn_Q_tab (x := p2) (kk := (1 : Int32)) (lo := 0) (hi := 6) (d := 160) (ts := [52, 65, 78, 91, 104, 124, 151]) (t := 65) (l := [(0, .ref 1), (1, .int p1), (2, .int p2)]) (r := []) (by with_unfolding_all rfl) hc5 (by with_unfolding_all rfl) ?_
        refine kn_P_steps 5 (f1 := (76, [(0, .ref 1), (1, .int p1), (2, .int p2)], [.int p1, .ref 5])) (h1 := (kn_hp L xs r_t_kinds r_t_holds r_t_barred r_t_parties r_t_size r_p_numbers r_p_size r_firms r_tied r_wars r_wet r_day r_drawn k_t_kinds k_t_holds k_t_barred k_t_parties k_t_size k_p_numbers k_p_size k_firms k_tied k_wars k_wet k_day k_drawn f_depths f_bars f_ways d_letters d_t_kinds d_t_holds d_t_barred d_t_parties d_t_size d_size d_at s_lanes s_sizes s_items isKept m_lane m_size m_item m_letters m_tape m_position m_number m_now m_tried m_read m_kept m_isKept m_ways m_wins)) (by with_unfolding_all rfl) ?_
        by_cases hb6 : p1 < 0 ∨ 8 ≤ (p1).toNatClampNeg
        · rw [if_pos hb6] at hf; cases hf
        · rw [if_neg hb6] at hf
          refine kn_Q_ok (c := p1 < 0 ∨ 8 ≤ (p1).toNatClampNeg) (t := 77) (l1 := [(0, .ref 1), (1, .int p1), (2, .int p2)]) (s1 := [.int (r_t_holds (p1).toNatClampNeg)]) (h1 := (kn_hp L xs r_t_kinds r_t_holds r_t_barred r_t_parties r_t_size r_p_numbers r_p_size r_firms r_tied r_wars r_wet r_day r_drawn k_t_kinds k_t_holds k_t_barred k_t_parties k_t_size k_p_numbers k_p_size k_firms k_tied k_wars k_wet k_day k_drawn f_depths f_bars f_ways d_letters d_t_kinds d_t_holds d_t_barred d_t_parties d_t_size d_size d_at s_lanes s_sizes s_items isKept m_lane m_size m_item m_letters m_tape m_position m_number m_now m_tried m_read m_kept m_isKept m_ways m_wins)) (by with_unfolding_all rfl) hb6 ?_
          replace hf := Option.some.inj hf
          subst hf
          exact kn_Q_ret (v := some (.int (r_t_holds (p1).toNatClampNeg))) (by with_unfolding_all rfl) ⟨rfl, rfl⟩
      · rw [if_neg hc5] at hf
        by_cases hc7 : p2 = (2 : Int32)
        · rw [if_pos hc7] at hf
          refine kn_Q_tab (x := p2) (kk := (2 : Int32)) (lo := 0) (hi := 6) (d := 160) (ts := [52, 65, 78, 91, 104, 124, 151]) (t := 78) (l := [(0, .ref 1), (1, .int p1), (2, .int p2)]) (r := []) (by with_unfolding_all rfl) hc7 (by with_unfolding_all rfl) ?_
          refine kn_P_steps 5 (f1 := (89, [(0, .ref 1), (1, .int p1), (2, .int p2)], [.int p1, .ref 6])) (h1 := (kn_hp L xs r_t_kinds r_t_holds r_t_barred r_t_parties r_t_size r_p_numbers r_p_size r_firms r_tied r_wars r_wet r_day r_drawn k_t_kinds k_t_holds k_t_barred k_t_parties k_t_size k_p_numbers k_p_size k_firms k_tied k_wars k_wet k_day k_drawn f_depths f_bars f_ways d_letters d_t_kinds d_t_holds d_t_barred d_t_parties d_t_size d_size d_at s_lanes s_sizes s_items isKept m_lane m_size m_item m_letters m_tape m_position m_number m_now m_tried m_read m_kept m_isKept m_ways m_wins)) (by with_unfolding_all rfl) ?_
          by_cases hb8 : p1 < 0 ∨ 8 ≤ (p1).toNatClampNeg
          · rw [if_pos hb8] at hf; cases hf
          · rw [if_neg hb8] at hf
            refine kn_Q_ok (c := p1 < 0 ∨ 8 ≤ (p1).toNatClampNeg) (t := 90) (l1 := [(0, .ref 1), (1, .int p1), (2, .int p2)]) (s1 := [.int (r_t_barred (p1).toNatClampNeg)]) (h1 := (kn_hp L xs r_t_kinds r_t_holds r_t_barred r_t_parties r_t_size r_p_numbers r_p_size r_firms r_tied r_wars r_wet r_day r_drawn k_t_kinds k_t_holds k_t_barred k_t_parties k_t_size k_p_numbers k_p_size k_firms k_tied k_wars k_wet k_day k_drawn f_depths f_bars f_ways d_letters d_t_kinds d_t_holds d_t_barred d_t_parties d_t_size d_size d_at s_lanes s_sizes s_items isKept m_lane m_size m_item m_letters m_tape m_position m_number m_now m_tried m_read m_kept m_isKept m_ways m_wins)) (by with_unfolding_all rfl) hb8 ?_
            replace hf := Option.some.inj hf
            subst hf
            exact kn_Q_ret (v := some (.int (r_t_barred (p1).toNatClampNeg))) (by with_unfolding_all rfl) ⟨rfl, rfl⟩
        · rw [if_neg hc7] at hf
          by_cases hc9 : p2 = (3 : Int32)
          · rw [if_pos hc9] at hf
            refine kn_Q_tab (x := p2) (kk := (3 : Int32)) (lo := 0) (hi := 6) (d := 160) (ts := [52, 65, 78, 91, 104, 124, 151]) (t := 91) (l := [(0, .ref 1), (1, .int p1), (2, .int p2)]) (r := []) (by with_unfolding_all rfl) hc9 (by with_unfolding_all rfl) ?_
            refine kn_P_steps 5 (f1 := (102, [(0, .ref 1), (1, .int p1), (2, .int p2)], [.int p1, .ref 7])) (h1 := (kn_hp L xs r_t_kinds r_t_holds r_t_barred r_t_parties r_t_size r_p_numbers r_p_size r_firms r_tied r_wars r_wet r_day r_drawn k_t_kinds k_t_holds k_t_barred k_t_parties k_t_size k_p_numbers k_p_size k_firms k_tied k_wars k_wet k_day k_drawn f_depths f_bars f_ways d_letters d_t_kinds d_t_holds d_t_barred d_t_parties d_t_size d_size d_at s_lanes s_sizes s_items isKept m_lane m_size m_item m_letters m_tape m_position m_number m_now m_tried m_read m_kept m_isKept m_ways m_wins)) (by with_unfolding_all rfl) ?_
            by_cases hb10 : p1 < 0 ∨ 8 ≤ (p1).toNatClampNeg
            · rw [if_pos hb10] at hf; cases hf
            · rw [if_neg hb10] at hf
              refine kn_Q_ok (c := p1 < 0 ∨ 8 ≤ (p1).toNatClampNeg) (t := 103) (l1 := [(0, .ref 1), (1, .int p1), (2, .int p2)]) (s1 := [.int (r_t_parties (p1).toNatClampNeg)]) (h1 := (kn_hp L xs r_t_kinds r_t_holds r_t_barred r_t_parties r_t_size r_p_numbers r_p_size r_firms r_tied r_wars r_wet r_day r_drawn k_t_kinds k_t_holds k_t_barred k_t_parties k_t_size k_p_numbers k_p_size k_firms k_tied k_wars k_wet k_day k_drawn f_depths f_bars f_ways d_letters d_t_kinds d_t_holds d_t_barred d_t_parties d_t_size d_size d_at s_lanes s_sizes s_items isKept m_lane m_size m_item m_letters m_tape m_position m_number m_now m_tried m_read m_kept m_isKept m_ways m_wins)) (by with_unfolding_all rfl) hb10 ?_
              replace hf := Option.some.inj hf
              subst hf
              exact kn_Q_ret (v := some (.int (r_t_parties (p1).toNatClampNeg))) (by with_unfolding_all rfl) ⟨rfl, rfl⟩
          · rw [if_neg hc9] at hf
            by_cases hc11 : p2 = (4 : Int32)
            · rw [if_pos hc11] at hf
              refine kn_Q_tab (x := p2) (kk := (4 : Int32)) (lo := 0) (hi := 6) (d := 160) (ts := [52, 65, 78, 91, 104, 124, 151]) (t := 104) (l := [(0, .ref 1), (1, .int p1), (2, .int p2)]) (r := []) (by with_unfolding_all rfl) hc11 (by with_unfolding_all rfl) ?_
              refine kn_P_steps 4 (f1 := (112, [(0, .ref 1), (1, .int p1), (2, .int p2)], [.int p1, .int r_tied])) (h1 := (kn_hp L xs r_t_kinds r_t_holds r_t_barred r_t_parties r_t_size r_p_numbers r_p_size r_firms r_tied r_wars r_wet r_day r_drawn k_t_kinds k_t_holds k_t_barred k_t_parties k_t_size k_p_numbers k_p_size k_firms k_tied k_wars k_wet k_day k_drawn f_depths f_bars f_ways d_letters d_t_kinds d_t_holds d_t_barred d_t_parties d_t_size d_size d_at s_lanes s_sizes s_items isKept m_lane m_size m_item m_letters m_tape m_position m_number m_now m_tried m_read m_kept m_isKept m_ways m_wins)) (by with_unfolding_all rfl) ?_
              refine kn_Q_call (M1 := km_X6_has) (j := 97) (as := [.int r_tied, .int p1]) (f1 := (115, [(0, .ref 1), (1, .int p1), (2, .int p2)], [])) (f0 := (0, [(0, .int r_tied), (1, .int p1)], [])) (by with_unfolding_all rfl) (by with_unfolding_all rfl) (by with_unfolding_all rfl) (mt_X6_has rfl) (fun v9 h9 q9 => ?_)
              obtain ⟨rfl, rfl, hz12⟩ := q9
              refine kn_Q_if (c := (f_X6_has r_tied p1) = (0 : Int32)) (t := 122) (n := 118) (l1 := [(0, .ref 1), (1, .int p1), (2, .int p2)]) (s1 := []) (by with_unfolding_all rfl) (fun hc13 => ?_) (fun hc13 => ?_)
              · rw [if_pos hc13] at hf
                refine kn_P_steps 1 (f1 := (123, [(0, .ref 1), (1, .int p1), (2, .int p2)], [.int (0 : Int32)])) (h1 := (kn_hp L xs r_t_kinds r_t_holds r_t_barred r_t_parties r_t_size r_p_numbers r_p_size r_firms r_tied r_wars r_wet r_day r_drawn k_t_kinds k_t_holds k_t_barred k_t_parties k_t_size k_p_numbers k_p_size k_firms k_tied k_wars k_wet k_day k_drawn f_depths f_bars f_ways d_letters d_t_kinds d_t_holds d_t_barred d_t_parties d_t_size d_size d_at s_lanes s_sizes s_items isKept m_lane m_size m_item m_letters m_tape m_position m_number m_now m_tried m_read m_kept m_isKept m_ways m_wins)) (by with_unfolding_all rfl) ?_
                replace hf := Option.some.inj hf
                subst hf
                exact kn_Q_ret (v := some (.int (0 : Int32))) (by with_unfolding_all rfl) ⟨rfl, rfl⟩
              · rw [if_neg hc13] at hf
                refine kn_P_steps 2 (f1 := (123, [(0, .ref 1), (1, .int p1), (2, .int p2)], [.int (1 : Int32)])) (h1 := (kn_hp L xs r_t_kinds r_t_holds r_t_barred r_t_parties r_t_size r_p_numbers r_p_size r_firms r_tied r_wars r_wet r_day r_drawn k_t_kinds k_t_holds k_t_barred k_t_parties k_t_size k_p_numbers k_p_size k_firms k_tied k_wars k_wet k_day k_drawn f_depths f_bars f_ways d_letters d_t_kinds d_t_holds d_t_barred d_t_parties d_t_size d_size d_at s_lanes s_sizes s_items isKept m_lane m_size m_item m_letters m_tape m_position m_number m_now m_tried m_read m_kept m_isKept m_ways m_wins)) (by with_unfolding_all rfl) ?_
                replace hf := Option.some.inj hf
                subst hf
                exact kn_Q_ret (v := some (.int (1 : Int32))) (by with_unfolding_all rfl) ⟨rfl, rfl⟩
            · rw [if_neg hc11] at hf
              by_cases hc14 : p2 = (5 : Int32)
              · rw [if_pos hc14] at hf
                refine kn_Q_tab (x := p2) (kk := (5 : Int32)) (lo := 0) (hi := 6) (d := 160) (ts := [52, 65, 78, 91, 104, 124, 151]) (t := 124) (l := [(0, .ref 1), (1, .int p1), (2, .int p2)]) (r := []) (by with_unfolding_all rfl) hc14 (by with_unfolding_all rfl) ?_
                refine kn_P_steps 5 (f1 := (135, [(0, .ref 1), (1, .int p1), (2, .int p2)], [.int r_tied, .ref 2])) (h1 := (kn_hp L xs r_t_kinds r_t_holds r_t_barred r_t_parties r_t_size r_p_numbers r_p_size r_firms r_tied r_wars r_wet r_day r_drawn k_t_kinds k_t_holds k_t_barred k_t_parties k_t_size k_p_numbers k_p_size k_firms k_tied k_wars k_wet k_day k_drawn f_depths f_bars f_ways d_letters d_t_kinds d_t_holds d_t_barred d_t_parties d_t_size d_size d_at s_lanes s_sizes s_items isKept m_lane m_size m_item m_letters m_tape m_position m_number m_now m_tried m_read m_kept m_isKept m_ways m_wins)) (by with_unfolding_all rfl) ?_
                cases e15 : f_X4_freeAmong r_t_barred r_tied with
                | none => rw [e15] at hf; cases hf
                | some q1 =>
                  rw [e15] at hf
                  dsimp only at hf
                  refine kn_Q_call (M1 := km_X4_freeAmong) (j := 37) (as := [.ref 2, .int r_tied]) (f1 := (138, [(0, .ref 1), (1, .int p1), (2, .int p2)], [])) (f0 := (0, [(0, .ref 2), (1, .int r_tied)], [])) (by with_unfolding_all rfl) (by with_unfolding_all rfl) (by with_unfolding_all rfl) (mt_X4_freeAmong e15) (fun v9 h9 q9 => ?_)
                  obtain ⟨rfl, rfl⟩ := q9
                  refine kn_P_steps 1 (f1 := (139, [(0, .ref 1), (1, .int p1), (2, .int p2)], [.int p1, .int q1])) (h1 := (kn_hp L xs r_t_kinds r_t_holds r_t_barred r_t_parties r_t_size r_p_numbers r_p_size r_firms r_tied r_wars r_wet r_day r_drawn k_t_kinds k_t_holds k_t_barred k_t_parties k_t_size k_p_numbers k_p_size k_firms k_tied k_wars k_wet k_day k_drawn f_depths f_bars f_ways d_letters d_t_kinds d_t_holds d_t_barred d_t_parties d_t_size d_size d_at s_lanes s_sizes s_items isKept m_lane m_size m_item m_letters m_tape m_position m_number m_now m_tried m_read m_kept m_isKept m_ways m_wins)) (by with_unfolding_all rfl) ?_
                  refine kn_Q_call (M1 := km_X6_has) (j := 97) (as := [.int q1, .int p1]) (f1 := (142, [(0, .ref 1), (1, .int p1), (2, .int p2)], [])) (f0 := (0, [(0, .int q1), (1, .int p1)], [])) (by with_unfolding_all rfl) (by with_unfolding_all rfl) (by with_unfolding_all rfl) (mt_X6_has rfl) (fun v9 h9 q9 => ?_)
                  obtain ⟨rfl, rfl, hz16⟩ := q9
                  refine kn_Q_if (c := (f_X6_has q1 p1) = (0 : Int32)) (t := 149) (n := 145) (l1 := [(0, .ref 1), (1, .int p1), (2, .int p2)]) (s1 := []) (by with_unfolding_all rfl) (fun hc17 => ?_) (fun hc17 => ?_)
                  · rw [if_pos hc17] at hf
                    refine kn_P_steps 1 (f1 := (150, [(0, .ref 1), (1, .int p1), (2, .int p2)], [.int (0 : Int32)])) (h1 := (kn_hp L xs r_t_kinds r_t_holds r_t_barred r_t_parties r_t_size r_p_numbers r_p_size r_firms r_tied r_wars r_wet r_day r_drawn k_t_kinds k_t_holds k_t_barred k_t_parties k_t_size k_p_numbers k_p_size k_firms k_tied k_wars k_wet k_day k_drawn f_depths f_bars f_ways d_letters d_t_kinds d_t_holds d_t_barred d_t_parties d_t_size d_size d_at s_lanes s_sizes s_items isKept m_lane m_size m_item m_letters m_tape m_position m_number m_now m_tried m_read m_kept m_isKept m_ways m_wins)) (by with_unfolding_all rfl) ?_
                    replace hf := Option.some.inj hf
                    subst hf
                    exact kn_Q_ret (v := some (.int (0 : Int32))) (by with_unfolding_all rfl) ⟨rfl, rfl⟩
                  · rw [if_neg hc17] at hf
                    refine kn_P_steps 2 (f1 := (150, [(0, .ref 1), (1, .int p1), (2, .int p2)], [.int (1 : Int32)])) (h1 := (kn_hp L xs r_t_kinds r_t_holds r_t_barred r_t_parties r_t_size r_p_numbers r_p_size r_firms r_tied r_wars r_wet r_day r_drawn k_t_kinds k_t_holds k_t_barred k_t_parties k_t_size k_p_numbers k_p_size k_firms k_tied k_wars k_wet k_day k_drawn f_depths f_bars f_ways d_letters d_t_kinds d_t_holds d_t_barred d_t_parties d_t_size d_size d_at s_lanes s_sizes s_items isKept m_lane m_size m_item m_letters m_tape m_position m_number m_now m_tried m_read m_kept m_isKept m_ways m_wins)) (by with_unfolding_all rfl) ?_
                    replace hf := Option.some.inj hf
                    subst hf
                    exact kn_Q_ret (v := some (.int (1 : Int32))) (by with_unfolding_all rfl) ⟨rfl, rfl⟩
              · rw [if_neg hc14] at hf
                by_cases hc18 : p2 = (6 : Int32)
                · rw [if_pos hc18] at hf
                  refine kn_Q_tab (x := p2) (kk := (6 : Int32)) (lo := 0) (hi := 6) (d := 160) (ts := [52, 65, 78, 91, 104, 124, 151]) (t := 151) (l := [(0, .ref 1), (1, .int p1), (2, .int p2)]) (r := []) (by with_unfolding_all rfl) hc18 (by with_unfolding_all rfl) ?_
                  refine kn_P_steps 3 (f1 := (156, [(0, .ref 1), (1, .int p1), (2, .int p2)], [.int p1, .ref 2])) (h1 := (kn_hp L xs r_t_kinds r_t_holds r_t_barred r_t_parties r_t_size r_p_numbers r_p_size r_firms r_tied r_wars r_wet r_day r_drawn k_t_kinds k_t_holds k_t_barred k_t_parties k_t_size k_p_numbers k_p_size k_firms k_tied k_wars k_wet k_day k_drawn f_depths f_bars f_ways d_letters d_t_kinds d_t_holds d_t_barred d_t_parties d_t_size d_size d_at s_lanes s_sizes s_items isKept m_lane m_size m_item m_letters m_tape m_position m_number m_now m_tried m_read m_kept m_isKept m_ways m_wins)) (by with_unfolding_all rfl) ?_
                  cases e19 : f_X4_firmOf r_t_kinds r_t_holds r_wet r_day p1 with
                  | none => rw [e19] at hf; cases hf
                  | some q2 =>
                    rw [e19] at hf
                    dsimp only at hf
                    refine kn_Q_call (M1 := km_X4_firmOf) (j := 34) (as := [.ref 2, .int p1]) (f1 := (159, [(0, .ref 1), (1, .int p1), (2, .int p2)], [])) (f0 := (0, [(0, .ref 2), (1, .int p1)], [])) (by with_unfolding_all rfl) (by with_unfolding_all rfl) (by with_unfolding_all rfl) (mt_X4_firmOf e19) (fun v9 h9 q9 => ?_)
                    obtain ⟨rfl, rfl⟩ := q9
                    replace hf := Option.some.inj hf
                    subst hf
                    exact kn_Q_ret (v := some (.int q2)) (by with_unfolding_all rfl) ⟨rfl, rfl⟩
                · rw [if_neg hc18] at hf
                  refine kn_Q_tabN (x := p2) (lo := 0) (hi := 6) (ts := [52, 65, 78, 91, 104, 124, 151]) (d := 160) (l := [(0, .ref 1), (1, .int p1), (2, .int p2)]) (r := []) (by with_unfolding_all rfl) (kn_tab_out (0) (6) 7 (by decide) (fun j hj => match j, hj with
                    | 0, _ => hc3
                    | 1, _ => hc5
                    | 2, _ => hc7
                    | 3, _ => hc9
                    | 4, _ => hc11
                    | 5, _ => hc14
                    | 6, _ => hc18
                    | j + 7, hj => absurd hj (by omega))) ?_
                  refine kn_P_steps 1 (f1 := (161, [(0, .ref 1), (1, .int p1), (2, .int p2)], [.int (-1 : Int32)])) (h1 := (kn_hp L xs r_t_kinds r_t_holds r_t_barred r_t_parties r_t_size r_p_numbers r_p_size r_firms r_tied r_wars r_wet r_day r_drawn k_t_kinds k_t_holds k_t_barred k_t_parties k_t_size k_p_numbers k_p_size k_firms k_tied k_wars k_wet k_day k_drawn f_depths f_bars f_ways d_letters d_t_kinds d_t_holds d_t_barred d_t_parties d_t_size d_size d_at s_lanes s_sizes s_items isKept m_lane m_size m_item m_letters m_tape m_position m_number m_now m_tried m_read m_kept m_isKept m_ways m_wins)) (by with_unfolding_all rfl) ?_
                  replace hf := Option.some.inj hf
                  subst hf
                  exact kn_Q_ret (v := some (.int (-1 : Int32))) (by with_unfolding_all rfl) ⟨rfl, rfl⟩
set_option maxRecDepth 100000 in
set_option maxHeartbeats 4000000 in
theorem mt_X7_isClause {p1 : Int32} {r9 : Int32} (hf : f_X7_isClause m_now p1 = r9) : kn_Post kn_T km_X7_isClause (0, [(0, .ref 35), (1, .int p1)], []) (kn_hp L xs r_t_kinds r_t_holds r_t_barred r_t_parties r_t_size r_p_numbers r_p_size r_firms r_tied r_wars r_wet r_day r_drawn k_t_kinds k_t_holds k_t_barred k_t_parties k_t_size k_p_numbers k_p_size k_firms k_tied k_wars k_wet k_day k_drawn f_depths f_bars f_ways d_letters d_t_kinds d_t_holds d_t_barred d_t_parties d_t_size d_size d_at s_lanes s_sizes s_items isKept m_lane m_size m_item m_letters m_tape m_position m_number m_now m_tried m_read m_kept m_isKept m_ways m_wins) (fun v9 h9 => v9 = some (.int r9) ∧ h9 = (kn_hp L xs r_t_kinds r_t_holds r_t_barred r_t_parties r_t_size r_p_numbers r_p_size r_firms r_tied r_wars r_wet r_day r_drawn k_t_kinds k_t_holds k_t_barred k_t_parties k_t_size k_p_numbers k_p_size k_firms k_tied k_wars k_wet k_day k_drawn f_depths f_bars f_ways d_letters d_t_kinds d_t_holds d_t_barred d_t_parties d_t_size d_size d_at s_lanes s_sizes s_items isKept m_lane m_size m_item m_letters m_tape m_position m_number m_now m_tried m_read m_kept m_isKept m_ways m_wins) ∧ (r9 = 0 ∨ r9 = 1)) := by
  unfold f_X7_isClause at hf
  refine kn_P_steps 8 (f1 := (10, [(0, .ref 35), (1, .int p1)], [.int ((m_now 5) - (1 : Int32)), .int (0 : Int32), .int p1])) (h1 := (kn_hp L xs r_t_kinds r_t_holds r_t_barred r_t_parties r_t_size r_p_numbers r_p_size r_firms r_tied r_wars r_wet r_day r_drawn k_t_kinds k_t_holds k_t_barred k_t_parties k_t_size k_p_numbers k_p_size k_firms k_tied k_wars k_wet k_day k_drawn f_depths f_bars f_ways d_letters d_t_kinds d_t_holds d_t_barred d_t_parties d_t_size d_size d_at s_lanes s_sizes s_items isKept m_lane m_size m_item m_letters m_tape m_position m_number m_now m_tried m_read m_kept m_isKept m_ways m_wins)) (by with_unfolding_all rfl) ?_
  refine kn_Q_call (M1 := km_X7_in) (j := 106) (as := [.int p1, .int (0 : Int32), .int ((m_now 5) - (1 : Int32))]) (f1 := (13, [(0, .ref 35), (1, .int p1)], [])) (f0 := (0, [(0, .int p1), (1, .int (0 : Int32)), (2, .int ((m_now 5) - (1 : Int32)))], [])) (by with_unfolding_all rfl) (by with_unfolding_all rfl) (by with_unfolding_all rfl) (mt_X7_in rfl) (fun v9 h9 q9 => ?_)
  obtain ⟨rfl, rfl, hz1⟩ := q9
  subst hf
  exact kn_Q_retz (x := (f_X7_in p1 (0 : Int32) ((m_now 5) - (1 : Int32)))) (by with_unfolding_all rfl) hz1 ⟨rfl, rfl, hz1⟩
set_option maxRecDepth 100000 in
set_option maxHeartbeats 4000000 in
theorem mt_X7_has {p0 : Int32} {p1 : Int32} {r9 : Int32} (hf : f_X7_has p0 p1 = r9) : kn_Post kn_T km_X7_has (0, [(0, .int p0), (1, .int p1)], []) (kn_hp L xs r_t_kinds r_t_holds r_t_barred r_t_parties r_t_size r_p_numbers r_p_size r_firms r_tied r_wars r_wet r_day r_drawn k_t_kinds k_t_holds k_t_barred k_t_parties k_t_size k_p_numbers k_p_size k_firms k_tied k_wars k_wet k_day k_drawn f_depths f_bars f_ways d_letters d_t_kinds d_t_holds d_t_barred d_t_parties d_t_size d_size d_at s_lanes s_sizes s_items isKept m_lane m_size m_item m_letters m_tape m_position m_number m_now m_tried m_read m_kept m_isKept m_ways m_wins) (fun v9 h9 => v9 = some (.int r9) ∧ h9 = (kn_hp L xs r_t_kinds r_t_holds r_t_barred r_t_parties r_t_size r_p_numbers r_p_size r_firms r_tied r_wars r_wet r_day r_drawn k_t_kinds k_t_holds k_t_barred k_t_parties k_t_size k_p_numbers k_p_size k_firms k_tied k_wars k_wet k_day k_drawn f_depths f_bars f_ways d_letters d_t_kinds d_t_holds d_t_barred d_t_parties d_t_size d_size d_at s_lanes s_sizes s_items isKept m_lane m_size m_item m_letters m_tape m_position m_number m_now m_tried m_read m_kept m_isKept m_ways m_wins) ∧ (r9 = 0 ∨ r9 = 1)) := by
  unfold f_X7_has at hf
  refine kn_P_steps 6 (f1 := (6, [(0, .int p0), (1, .int p1)], [.int (1 : Int32), .int ((p0 >>> (p1 &&& (31 : Int32))) &&& (1 : Int32))])) (h1 := (kn_hp L xs r_t_kinds r_t_holds r_t_barred r_t_parties r_t_size r_p_numbers r_p_size r_firms r_tied r_wars r_wet r_day r_drawn k_t_kinds k_t_holds k_t_barred k_t_parties k_t_size k_p_numbers k_p_size k_firms k_tied k_wars k_wet k_day k_drawn f_depths f_bars f_ways d_letters d_t_kinds d_t_holds d_t_barred d_t_parties d_t_size d_size d_at s_lanes s_sizes s_items isKept m_lane m_size m_item m_letters m_tape m_position m_number m_now m_tried m_read m_kept m_isKept m_ways m_wins)) (by with_unfolding_all rfl) ?_
  refine kn_Q_if (c := ((p0 >>> (p1 &&& (31 : Int32))) &&& (1 : Int32)) = (1 : Int32)) (t := 9) (n := 13) (l1 := [(0, .int p0), (1, .int p1)]) (s1 := []) (by with_unfolding_all rfl) (fun hc1 => ?_) (fun hc1 => ?_)
  · rw [if_pos hc1] at hf
    refine kn_P_steps 2 (f1 := (14, [(0, .int p0), (1, .int p1)], [.int (1 : Int32)])) (h1 := (kn_hp L xs r_t_kinds r_t_holds r_t_barred r_t_parties r_t_size r_p_numbers r_p_size r_firms r_tied r_wars r_wet r_day r_drawn k_t_kinds k_t_holds k_t_barred k_t_parties k_t_size k_p_numbers k_p_size k_firms k_tied k_wars k_wet k_day k_drawn f_depths f_bars f_ways d_letters d_t_kinds d_t_holds d_t_barred d_t_parties d_t_size d_size d_at s_lanes s_sizes s_items isKept m_lane m_size m_item m_letters m_tape m_position m_number m_now m_tried m_read m_kept m_isKept m_ways m_wins)) (by with_unfolding_all rfl) ?_
    subst hf
    exact kn_Q_ret (v := some (.int (1 : Int32))) (by with_unfolding_all rfl) ⟨rfl, rfl, Or.inr rfl⟩
  · rw [if_neg hc1] at hf
    refine kn_P_steps 1 (f1 := (14, [(0, .int p0), (1, .int p1)], [.int (0 : Int32)])) (h1 := (kn_hp L xs r_t_kinds r_t_holds r_t_barred r_t_parties r_t_size r_p_numbers r_p_size r_firms r_tied r_wars r_wet r_day r_drawn k_t_kinds k_t_holds k_t_barred k_t_parties k_t_size k_p_numbers k_p_size k_firms k_tied k_wars k_wet k_day k_drawn f_depths f_bars f_ways d_letters d_t_kinds d_t_holds d_t_barred d_t_parties d_t_size d_size d_at s_lanes s_sizes s_items isKept m_lane m_size m_item m_letters m_tape m_position m_number m_now m_tried m_read m_kept m_isKept m_ways m_wins)) (by with_unfolding_all rfl) ?_
    subst hf
    exact kn_Q_ret (v := some (.int (0 : Int32))) (by with_unfolding_all rfl) ⟨rfl, rfl, Or.inl rfl⟩
set_option maxRecDepth 100000 in
set_option maxHeartbeats 4000000 in
theorem mt_X7_isFree {p1 : Int32} {p2 : Int32} {r9 : Int32} (hf : f_X7_isFree m_now p1 p2 = some r9) : kn_Post kn_T km_X7_isFree (0, [(0, .ref 40), (1, .int p1), (2, .int p2)], []) (kn_hp L xs r_t_kinds r_t_holds r_t_barred r_t_parties r_t_size r_p_numbers r_p_size r_firms r_tied r_wars r_wet r_day r_drawn k_t_kinds k_t_holds k_t_barred k_t_parties k_t_size k_p_numbers k_p_size k_firms k_tied k_wars k_wet k_day k_drawn f_depths f_bars f_ways d_letters d_t_kinds d_t_holds d_t_barred d_t_parties d_t_size d_size d_at s_lanes s_sizes s_items isKept m_lane m_size m_item m_letters m_tape m_position m_number m_now m_tried m_read m_kept m_isKept m_ways m_wins) (fun v9 h9 => v9 = some (.int r9) ∧ h9 = (kn_hp L xs r_t_kinds r_t_holds r_t_barred r_t_parties r_t_size r_p_numbers r_p_size r_firms r_tied r_wars r_wet r_day r_drawn k_t_kinds k_t_holds k_t_barred k_t_parties k_t_size k_p_numbers k_p_size k_firms k_tied k_wars k_wet k_day k_drawn f_depths f_bars f_ways d_letters d_t_kinds d_t_holds d_t_barred d_t_parties d_t_size d_size d_at s_lanes s_sizes s_items isKept m_lane m_size m_item m_letters m_tape m_position m_number m_now m_tried m_read m_kept m_isKept m_ways m_wins) ∧ (r9 = 0 ∨ r9 = 1)) := by
  unfold f_X7_isFree at hf
  refine kn_P_steps 2 (f1 := (2, [(0, .ref 40), (1, .int p1), (2, .int p2)], [.int p1, .int p2])) (h1 := (kn_hp L xs r_t_kinds r_t_holds r_t_barred r_t_parties r_t_size r_p_numbers r_p_size r_firms r_tied r_wars r_wet r_day r_drawn k_t_kinds k_t_holds k_t_barred k_t_parties k_t_size k_p_numbers k_p_size k_firms k_tied k_wars k_wet k_day k_drawn f_depths f_bars f_ways d_letters d_t_kinds d_t_holds d_t_barred d_t_parties d_t_size d_size d_at s_lanes s_sizes s_items isKept m_lane m_size m_item m_letters m_tape m_position m_number m_now m_tried m_read m_kept m_isKept m_ways m_wins)) (by with_unfolding_all rfl) ?_
  refine kn_Q_call (M1 := km_X7_has) (j := 107) (as := [.int p2, .int p1]) (f1 := (5, [(0, .ref 40), (1, .int p1), (2, .int p2)], [])) (f0 := (0, [(0, .int p2), (1, .int p1)], [])) (by with_unfolding_all rfl) (by with_unfolding_all rfl) (by with_unfolding_all rfl) (mt_X7_has rfl) (fun v9 h9 q9 => ?_)
  obtain ⟨rfl, rfl, hz1⟩ := q9
  refine kn_Q_if (c := (f_X7_has p2 p1) = (0 : Int32)) (t := 23) (n := 8) (l1 := [(0, .ref 40), (1, .int p1), (2, .int p2)]) (s1 := []) (by with_unfolding_all rfl) (fun hc2 => ?_) (fun hc2 => ?_)
  · rw [if_pos hc2] at hf
    refine kn_P_steps 1 (f1 := (24, [(0, .ref 40), (1, .int p1), (2, .int p2)], [.int (0 : Int32)])) (h1 := (kn_hp L xs r_t_kinds r_t_holds r_t_barred r_t_parties r_t_size r_p_numbers r_p_size r_firms r_tied r_wars r_wet r_day r_drawn k_t_kinds k_t_holds k_t_barred k_t_parties k_t_size k_p_numbers k_p_size k_firms k_tied k_wars k_wet k_day k_drawn f_depths f_bars f_ways d_letters d_t_kinds d_t_holds d_t_barred d_t_parties d_t_size d_size d_at s_lanes s_sizes s_items isKept m_lane m_size m_item m_letters m_tape m_position m_number m_now m_tried m_read m_kept m_isKept m_ways m_wins)) (by with_unfolding_all rfl) ?_
    replace hf := Option.some.inj hf
    subst hf
    exact kn_Q_ret (v := some (.int (0 : Int32))) (by with_unfolding_all rfl) ⟨rfl, rfl, Or.inl rfl⟩
  · rw [if_neg hc2] at hf
    refine kn_P_steps 4 (f1 := (13, [(0, .ref 40), (1, .int p1), (2, .int p2)], [.int ((22 : Int32) + p1), .ref 40])) (h1 := (kn_hp L xs r_t_kinds r_t_holds r_t_barred r_t_parties r_t_size r_p_numbers r_p_size r_firms r_tied r_wars r_wet r_day r_drawn k_t_kinds k_t_holds k_t_barred k_t_parties k_t_size k_p_numbers k_p_size k_firms k_tied k_wars k_wet k_day k_drawn f_depths f_bars f_ways d_letters d_t_kinds d_t_holds d_t_barred d_t_parties d_t_size d_size d_at s_lanes s_sizes s_items isKept m_lane m_size m_item m_letters m_tape m_position m_number m_now m_tried m_read m_kept m_isKept m_ways m_wins)) (by with_unfolding_all rfl) ?_
    by_cases hb3 : ((22 : Int32) + p1) < 0 ∨ 79 ≤ (((22 : Int32) + p1)).toNatClampNeg
    · rw [if_pos hb3] at hf; cases hf
    · rw [if_neg hb3] at hf
      refine kn_Q_ok (c := ((22 : Int32) + p1) < 0 ∨ 79 ≤ (((22 : Int32) + p1)).toNatClampNeg) (t := 14) (l1 := [(0, .ref 40), (1, .int p1), (2, .int p2)]) (s1 := [.int (m_now (((22 : Int32) + p1)).toNatClampNeg)]) (h1 := (kn_hp L xs r_t_kinds r_t_holds r_t_barred r_t_parties r_t_size r_p_numbers r_p_size r_firms r_tied r_wars r_wet r_day r_drawn k_t_kinds k_t_holds k_t_barred k_t_parties k_t_size k_p_numbers k_p_size k_firms k_tied k_wars k_wet k_day k_drawn f_depths f_bars f_ways d_letters d_t_kinds d_t_holds d_t_barred d_t_parties d_t_size d_size d_at s_lanes s_sizes s_items isKept m_lane m_size m_item m_letters m_tape m_position m_number m_now m_tried m_read m_kept m_isKept m_ways m_wins)) (by with_unfolding_all rfl) hb3 ?_
      refine kn_P_steps 2 (f1 := (16, [(0, .ref 40), (1, .int p1), (2, .int p2)], [.int ((m_now (((22 : Int32) + p1)).toNatClampNeg) &&& p2)])) (h1 := (kn_hp L xs r_t_kinds r_t_holds r_t_barred r_t_parties r_t_size r_p_numbers r_p_size r_firms r_tied r_wars r_wet r_day r_drawn k_t_kinds k_t_holds k_t_barred k_t_parties k_t_size k_p_numbers k_p_size k_firms k_tied k_wars k_wet k_day k_drawn f_depths f_bars f_ways d_letters d_t_kinds d_t_holds d_t_barred d_t_parties d_t_size d_size d_at s_lanes s_sizes s_items isKept m_lane m_size m_item m_letters m_tape m_position m_number m_now m_tried m_read m_kept m_isKept m_ways m_wins)) (by with_unfolding_all rfl) ?_
      refine kn_Q_if (c := ((m_now (((22 : Int32) + p1)).toNatClampNeg) &&& p2) = (0 : Int32)) (t := 19) (n := 23) (l1 := [(0, .ref 40), (1, .int p1), (2, .int p2)]) (s1 := []) (by with_unfolding_all rfl) (fun hc4 => ?_) (fun hc4 => ?_)
      · rw [if_pos hc4] at hf
        refine kn_P_steps 2 (f1 := (24, [(0, .ref 40), (1, .int p1), (2, .int p2)], [.int (1 : Int32)])) (h1 := (kn_hp L xs r_t_kinds r_t_holds r_t_barred r_t_parties r_t_size r_p_numbers r_p_size r_firms r_tied r_wars r_wet r_day r_drawn k_t_kinds k_t_holds k_t_barred k_t_parties k_t_size k_p_numbers k_p_size k_firms k_tied k_wars k_wet k_day k_drawn f_depths f_bars f_ways d_letters d_t_kinds d_t_holds d_t_barred d_t_parties d_t_size d_size d_at s_lanes s_sizes s_items isKept m_lane m_size m_item m_letters m_tape m_position m_number m_now m_tried m_read m_kept m_isKept m_ways m_wins)) (by with_unfolding_all rfl) ?_
        replace hf := Option.some.inj hf
        subst hf
        exact kn_Q_ret (v := some (.int (1 : Int32))) (by with_unfolding_all rfl) ⟨rfl, rfl, Or.inr rfl⟩
      · rw [if_neg hc4] at hf
        refine kn_P_steps 1 (f1 := (24, [(0, .ref 40), (1, .int p1), (2, .int p2)], [.int (0 : Int32)])) (h1 := (kn_hp L xs r_t_kinds r_t_holds r_t_barred r_t_parties r_t_size r_p_numbers r_p_size r_firms r_tied r_wars r_wet r_day r_drawn k_t_kinds k_t_holds k_t_barred k_t_parties k_t_size k_p_numbers k_p_size k_firms k_tied k_wars k_wet k_day k_drawn f_depths f_bars f_ways d_letters d_t_kinds d_t_holds d_t_barred d_t_parties d_t_size d_size d_at s_lanes s_sizes s_items isKept m_lane m_size m_item m_letters m_tape m_position m_number m_now m_tried m_read m_kept m_isKept m_ways m_wins)) (by with_unfolding_all rfl) ?_
        replace hf := Option.some.inj hf
        subst hf
        exact kn_Q_ret (v := some (.int (0 : Int32))) (by with_unfolding_all rfl) ⟨rfl, rfl, Or.inl rfl⟩
set_option maxRecDepth 100000 in
set_option maxHeartbeats 4000000 in
theorem mt_X7_firmBy {p1 : Int32} {p2 : Int32} {r9 : Int32} (hf : f_X7_firmBy m_now p1 p2 = r9) : kn_Post kn_T km_X7_firmBy (0, [(0, .ref 40), (1, .int p1), (2, .int p2)], []) (kn_hp L xs r_t_kinds r_t_holds r_t_barred r_t_parties r_t_size r_p_numbers r_p_size r_firms r_tied r_wars r_wet r_day r_drawn k_t_kinds k_t_holds k_t_barred k_t_parties k_t_size k_p_numbers k_p_size k_firms k_tied k_wars k_wet k_day k_drawn f_depths f_bars f_ways d_letters d_t_kinds d_t_holds d_t_barred d_t_parties d_t_size d_size d_at s_lanes s_sizes s_items isKept m_lane m_size m_item m_letters m_tape m_position m_number m_now m_tried m_read m_kept m_isKept m_ways m_wins) (fun v9 h9 => v9 = some (.int r9) ∧ h9 = (kn_hp L xs r_t_kinds r_t_holds r_t_barred r_t_parties r_t_size r_p_numbers r_p_size r_firms r_tied r_wars r_wet r_day r_drawn k_t_kinds k_t_holds k_t_barred k_t_parties k_t_size k_p_numbers k_p_size k_firms k_tied k_wars k_wet k_day k_drawn f_depths f_bars f_ways d_letters d_t_kinds d_t_holds d_t_barred d_t_parties d_t_size d_size d_at s_lanes s_sizes s_items isKept m_lane m_size m_item m_letters m_tape m_position m_number m_now m_tried m_read m_kept m_isKept m_ways m_wins)) := by
  unfold f_X7_firmBy at hf
  refine kn_P_steps 4 (f1 := (4, [(0, .ref 40), (1, .int p1), (2, .int p2)], [.int (1 : Int32), .int (m_now 3)])) (h1 := (kn_hp L xs r_t_kinds r_t_holds r_t_barred r_t_parties r_t_size r_p_numbers r_p_size r_firms r_tied r_wars r_wet r_day r_drawn k_t_kinds k_t_holds k_t_barred k_t_parties k_t_size k_p_numbers k_p_size k_firms k_tied k_wars k_wet k_day k_drawn f_depths f_bars f_ways d_letters d_t_kinds d_t_holds d_t_barred d_t_parties d_t_size d_size d_at s_lanes s_sizes s_items isKept m_lane m_size m_item m_letters m_tape m_position m_number m_now m_tried m_read m_kept m_isKept m_ways m_wins)) (by with_unfolding_all rfl) ?_
  refine kn_Q_if (c := (m_now 3) = (1 : Int32)) (t := 7) (n := 13) (l1 := [(0, .ref 40), (1, .int p1), (2, .int p2)]) (s1 := []) (by with_unfolding_all rfl) (fun hc1 => ?_) (fun hc1 => ?_)
  · rw [if_pos hc1] at hf
    refine kn_P_steps 6 (f1 := (16, [(3, .int ((2 : Int32) * p2)), (0, .ref 40), (1, .int p1), (2, .int p2)], [.int p1])) (h1 := (kn_hp L xs r_t_kinds r_t_holds r_t_barred r_t_parties r_t_size r_p_numbers r_p_size r_firms r_tied r_wars r_wet r_day r_drawn k_t_kinds k_t_holds k_t_barred k_t_parties k_t_size k_p_numbers k_p_size k_firms k_tied k_wars k_wet k_day k_drawn f_depths f_bars f_ways d_letters d_t_kinds d_t_holds d_t_barred d_t_parties d_t_size d_size d_at s_lanes s_sizes s_items isKept m_lane m_size m_item m_letters m_tape m_position m_number m_now m_tried m_read m_kept m_isKept m_ways m_wins)) (by with_unfolding_all rfl) ?_
    by_cases hc2 : p1 = (0 : Int32)
    · rw [if_pos hc2] at hf
      refine kn_Q_tab (x := p1) (kk := (0 : Int32)) (lo := 0) (hi := 3) (d := 71) (ts := [48, 50, 55, 59]) (t := 48) (l := [(3, .int ((2 : Int32) * p2)), (0, .ref 40), (1, .int p1), (2, .int p2)]) (r := []) (by with_unfolding_all rfl) hc2 (by with_unfolding_all rfl) ?_
      refine kn_P_steps 1 (f1 := (49, [(3, .int ((2 : Int32) * p2)), (0, .ref 40), (1, .int p1), (2, .int p2)], [.int ((2 : Int32) * p2)])) (h1 := (kn_hp L xs r_t_kinds r_t_holds r_t_barred r_t_parties r_t_size r_p_numbers r_p_size r_firms r_tied r_wars r_wet r_day r_drawn k_t_kinds k_t_holds k_t_barred k_t_parties k_t_size k_p_numbers k_p_size k_firms k_tied k_wars k_wet k_day k_drawn f_depths f_bars f_ways d_letters d_t_kinds d_t_holds d_t_barred d_t_parties d_t_size d_size d_at s_lanes s_sizes s_items isKept m_lane m_size m_item m_letters m_tape m_position m_number m_now m_tried m_read m_kept m_isKept m_ways m_wins)) (by with_unfolding_all rfl) ?_
      subst hf
      exact kn_Q_ret (v := some (.int ((2 : Int32) * p2))) (by with_unfolding_all rfl) ⟨rfl, rfl⟩
    · rw [if_neg hc2] at hf
      by_cases hc3 : p1 = (1 : Int32)
      · rw [if_pos hc3] at hf
        refine kn_Q_tab (x := p1) (kk := (1 : Int32)) (lo := 0) (hi := 3) (d := 71) (ts := [48, 50, 55, 59]) (t := 50) (l := [(3, .int ((2 : Int32) * p2)), (0, .ref 40), (1, .int p1), (2, .int p2)]) (r := []) (by with_unfolding_all rfl) hc3 (by with_unfolding_all rfl) ?_
        refine kn_P_steps 3 (f1 := (54, [(3, .int ((2 : Int32) * p2)), (0, .ref 40), (1, .int p1), (2, .int p2)], [.int (((2 : Int32) * p2) + (10 : Int32))])) (h1 := (kn_hp L xs r_t_kinds r_t_holds r_t_barred r_t_parties r_t_size r_p_numbers r_p_size r_firms r_tied r_wars r_wet r_day r_drawn k_t_kinds k_t_holds k_t_barred k_t_parties k_t_size k_p_numbers k_p_size k_firms k_tied k_wars k_wet k_day k_drawn f_depths f_bars f_ways d_letters d_t_kinds d_t_holds d_t_barred d_t_parties d_t_size d_size d_at s_lanes s_sizes s_items isKept m_lane m_size m_item m_letters m_tape m_position m_number m_now m_tried m_read m_kept m_isKept m_ways m_wins)) (by with_unfolding_all rfl) ?_
        subst hf
        exact kn_Q_ret (v := some (.int (((2 : Int32) * p2) + (10 : Int32)))) (by with_unfolding_all rfl) ⟨rfl, rfl⟩
      · rw [if_neg hc3] at hf
        by_cases hc4 : p1 = (2 : Int32)
        · rw [if_pos hc4] at hf
          refine kn_Q_tab (x := p1) (kk := (2 : Int32)) (lo := 0) (hi := 3) (d := 71) (ts := [48, 50, 55, 59]) (t := 55) (l := [(3, .int ((2 : Int32) * p2)), (0, .ref 40), (1, .int p1), (2, .int p2)]) (r := []) (by with_unfolding_all rfl) hc4 (by with_unfolding_all rfl) ?_
          refine kn_P_steps 3 (f1 := (58, [(3, .int ((2 : Int32) * p2)), (0, .ref 40), (1, .int p1), (2, .int p2)], [.int (((2 : Int32) * p2) / (2 : Int32))])) (h1 := (kn_hp L xs r_t_kinds r_t_holds r_t_barred r_t_parties r_t_size r_p_numbers r_p_size r_firms r_tied r_wars r_wet r_day r_drawn k_t_kinds k_t_holds k_t_barred k_t_parties k_t_size k_p_numbers k_p_size k_firms k_tied k_wars k_wet k_day k_drawn f_depths f_bars f_ways d_letters d_t_kinds d_t_holds d_t_barred d_t_parties d_t_size d_size d_at s_lanes s_sizes s_items isKept m_lane m_size m_item m_letters m_tape m_position m_number m_now m_tried m_read m_kept m_isKept m_ways m_wins)) (by with_unfolding_all rfl) ?_
          subst hf
          exact kn_Q_ret (v := some (.int (((2 : Int32) * p2) / (2 : Int32)))) (by with_unfolding_all rfl) ⟨rfl, rfl⟩
        · rw [if_neg hc4] at hf
          by_cases hc5 : p1 = (3 : Int32)
          · rw [if_pos hc5] at hf
            refine kn_Q_tab (x := p1) (kk := (3 : Int32)) (lo := 0) (hi := 3) (d := 71) (ts := [48, 50, 55, 59]) (t := 59) (l := [(3, .int ((2 : Int32) * p2)), (0, .ref 40), (1, .int p1), (2, .int p2)]) (r := []) (by with_unfolding_all rfl) hc5 (by with_unfolding_all rfl) ?_
            refine kn_P_steps 9 (f1 := (70, [(3, .int ((2 : Int32) * p2)), (0, .ref 40), (1, .int p1), (2, .int p2)], [.int ((((2 : Int32) * p2) + (10 : Int32)) + ((m_now 0) / (10 : Int32)))])) (h1 := (kn_hp L xs r_t_kinds r_t_holds r_t_barred r_t_parties r_t_size r_p_numbers r_p_size r_firms r_tied r_wars r_wet r_day r_drawn k_t_kinds k_t_holds k_t_barred k_t_parties k_t_size k_p_numbers k_p_size k_firms k_tied k_wars k_wet k_day k_drawn f_depths f_bars f_ways d_letters d_t_kinds d_t_holds d_t_barred d_t_parties d_t_size d_size d_at s_lanes s_sizes s_items isKept m_lane m_size m_item m_letters m_tape m_position m_number m_now m_tried m_read m_kept m_isKept m_ways m_wins)) (by with_unfolding_all rfl) ?_
            subst hf
            exact kn_Q_ret (v := some (.int ((((2 : Int32) * p2) + (10 : Int32)) + ((m_now 0) / (10 : Int32))))) (by with_unfolding_all rfl) ⟨rfl, rfl⟩
          · rw [if_neg hc5] at hf
            refine kn_Q_tabN (x := p1) (lo := 0) (hi := 3) (ts := [48, 50, 55, 59]) (d := 71) (l := [(3, .int ((2 : Int32) * p2)), (0, .ref 40), (1, .int p1), (2, .int p2)]) (r := []) (by with_unfolding_all rfl) (kn_tab_out (0) (3) 4 (by decide) (fun j hj => match j, hj with
              | 0, _ => hc2
              | 1, _ => hc3
              | 2, _ => hc4
              | 3, _ => hc5
              | j + 4, hj => absurd hj (by omega))) ?_
            refine kn_P_steps 5 (f1 := (77, [(3, .int ((2 : Int32) * p2)), (0, .ref 40), (1, .int p1), (2, .int p2)], [.int ((m_now 0) - (m_now 0) / (7 : Int32) * (7 : Int32))])) (h1 := (kn_hp L xs r_t_kinds r_t_holds r_t_barred r_t_parties r_t_size r_p_numbers r_p_size r_firms r_tied r_wars r_wet r_day r_drawn k_t_kinds k_t_holds k_t_barred k_t_parties k_t_size k_p_numbers k_p_size k_firms k_tied k_wars k_wet k_day k_drawn f_depths f_bars f_ways d_letters d_t_kinds d_t_holds d_t_barred d_t_parties d_t_size d_size d_at s_lanes s_sizes s_items isKept m_lane m_size m_item m_letters m_tape m_position m_number m_now m_tried m_read m_kept m_isKept m_ways m_wins)) (by with_unfolding_all rfl) ?_
            refine kn_Q_if (c := ((m_now 0) - (m_now 0) / (7 : Int32) * (7 : Int32)) = (0 : Int32)) (t := 80) (n := 84) (l1 := [(3, .int ((2 : Int32) * p2)), (0, .ref 40), (1, .int p1), (2, .int p2)]) (s1 := []) (by with_unfolding_all rfl) (fun hc6 => ?_) (fun hc6 => ?_)
            · rw [if_pos hc6] at hf
              refine kn_P_steps 2 (f1 := (87, [(3, .int ((2 : Int32) * p2)), (0, .ref 40), (1, .int p1), (2, .int p2)], [.int (0 : Int32)])) (h1 := (kn_hp L xs r_t_kinds r_t_holds r_t_barred r_t_parties r_t_size r_p_numbers r_p_size r_firms r_tied r_wars r_wet r_day r_drawn k_t_kinds k_t_holds k_t_barred k_t_parties k_t_size k_p_numbers k_p_size k_firms k_tied k_wars k_wet k_day k_drawn f_depths f_bars f_ways d_letters d_t_kinds d_t_holds d_t_barred d_t_parties d_t_size d_size d_at s_lanes s_sizes s_items isKept m_lane m_size m_item m_letters m_tape m_position m_number m_now m_tried m_read m_kept m_isKept m_ways m_wins)) (by with_unfolding_all rfl) ?_
              subst hf
              exact kn_Q_ret (v := some (.int (0 : Int32))) (by with_unfolding_all rfl) ⟨rfl, rfl⟩
            · rw [if_neg hc6] at hf
              refine kn_P_steps 3 (f1 := (87, [(3, .int ((2 : Int32) * p2)), (0, .ref 40), (1, .int p1), (2, .int p2)], [.int (((2 : Int32) * p2) / (2 : Int32))])) (h1 := (kn_hp L xs r_t_kinds r_t_holds r_t_barred r_t_parties r_t_size r_p_numbers r_p_size r_firms r_tied r_wars r_wet r_day r_drawn k_t_kinds k_t_holds k_t_barred k_t_parties k_t_size k_p_numbers k_p_size k_firms k_tied k_wars k_wet k_day k_drawn f_depths f_bars f_ways d_letters d_t_kinds d_t_holds d_t_barred d_t_parties d_t_size d_size d_at s_lanes s_sizes s_items isKept m_lane m_size m_item m_letters m_tape m_position m_number m_now m_tried m_read m_kept m_isKept m_ways m_wins)) (by with_unfolding_all rfl) ?_
              subst hf
              exact kn_Q_ret (v := some (.int (((2 : Int32) * p2) / (2 : Int32)))) (by with_unfolding_all rfl) ⟨rfl, rfl⟩
  · rw [if_neg hc1] at hf
    refine kn_P_steps 3 (f1 := (16, [(3, .int p2), (0, .ref 40), (1, .int p1), (2, .int p2)], [.int p1])) (h1 := (kn_hp L xs r_t_kinds r_t_holds r_t_barred r_t_parties r_t_size r_p_numbers r_p_size r_firms r_tied r_wars r_wet r_day r_drawn k_t_kinds k_t_holds k_t_barred k_t_parties k_t_size k_p_numbers k_p_size k_firms k_tied k_wars k_wet k_day k_drawn f_depths f_bars f_ways d_letters d_t_kinds d_t_holds d_t_barred d_t_parties d_t_size d_size d_at s_lanes s_sizes s_items isKept m_lane m_size m_item m_letters m_tape m_position m_number m_now m_tried m_read m_kept m_isKept m_ways m_wins)) (by with_unfolding_all rfl) ?_
    by_cases hc7 : p1 = (0 : Int32)
    · rw [if_pos hc7] at hf
      refine kn_Q_tab (x := p1) (kk := (0 : Int32)) (lo := 0) (hi := 3) (d := 71) (ts := [48, 50, 55, 59]) (t := 48) (l := [(3, .int p2), (0, .ref 40), (1, .int p1), (2, .int p2)]) (r := []) (by with_unfolding_all rfl) hc7 (by with_unfolding_all rfl) ?_
      refine kn_P_steps 1 (f1 := (49, [(3, .int p2), (0, .ref 40), (1, .int p1), (2, .int p2)], [.int p2])) (h1 := (kn_hp L xs r_t_kinds r_t_holds r_t_barred r_t_parties r_t_size r_p_numbers r_p_size r_firms r_tied r_wars r_wet r_day r_drawn k_t_kinds k_t_holds k_t_barred k_t_parties k_t_size k_p_numbers k_p_size k_firms k_tied k_wars k_wet k_day k_drawn f_depths f_bars f_ways d_letters d_t_kinds d_t_holds d_t_barred d_t_parties d_t_size d_size d_at s_lanes s_sizes s_items isKept m_lane m_size m_item m_letters m_tape m_position m_number m_now m_tried m_read m_kept m_isKept m_ways m_wins)) (by with_unfolding_all rfl) ?_
      subst hf
      exact kn_Q_ret (v := some (.int p2)) (by with_unfolding_all rfl) ⟨rfl, rfl⟩
    · rw [if_neg hc7] at hf
      by_cases hc8 : p1 = (1 : Int32)
      · rw [if_pos hc8] at hf
        refine kn_Q_tab (x := p1) (kk := (1 : Int32)) (lo := 0) (hi := 3) (d := 71) (ts := [48, 50, 55, 59]) (t := 50) (l := [(3, .int p2), (0, .ref 40), (1, .int p1), (2, .int p2)]) (r := []) (by with_unfolding_all rfl) hc8 (by with_unfolding_all rfl) ?_
        refine kn_P_steps 3 (f1 := (54, [(3, .int p2), (0, .ref 40), (1, .int p1), (2, .int p2)], [.int (p2 + (10 : Int32))])) (h1 := (kn_hp L xs r_t_kinds r_t_holds r_t_barred r_t_parties r_t_size r_p_numbers r_p_size r_firms r_tied r_wars r_wet r_day r_drawn k_t_kinds k_t_holds k_t_barred k_t_parties k_t_size k_p_numbers k_p_size k_firms k_tied k_wars k_wet k_day k_drawn f_depths f_bars f_ways d_letters d_t_kinds d_t_holds d_t_barred d_t_parties d_t_size d_size d_at s_lanes s_sizes s_items isKept m_lane m_size m_item m_letters m_tape m_position m_number m_now m_tried m_read m_kept m_isKept m_ways m_wins)) (by with_unfolding_all rfl) ?_
        subst hf
        exact kn_Q_ret (v := some (.int (p2 + (10 : Int32)))) (by with_unfolding_all rfl) ⟨rfl, rfl⟩
      · rw [if_neg hc8] at hf
        by_cases hc9 : p1 = (2 : Int32)
        · rw [if_pos hc9] at hf
          refine kn_Q_tab (x := p1) (kk := (2 : Int32)) (lo := 0) (hi := 3) (d := 71) (ts := [48, 50, 55, 59]) (t := 55) (l := [(3, .int p2), (0, .ref 40), (1, .int p1), (2, .int p2)]) (r := []) (by with_unfolding_all rfl) hc9 (by with_unfolding_all rfl) ?_
          refine kn_P_steps 3 (f1 := (58, [(3, .int p2), (0, .ref 40), (1, .int p1), (2, .int p2)], [.int (p2 / (2 : Int32))])) (h1 := (kn_hp L xs r_t_kinds r_t_holds r_t_barred r_t_parties r_t_size r_p_numbers r_p_size r_firms r_tied r_wars r_wet r_day r_drawn k_t_kinds k_t_holds k_t_barred k_t_parties k_t_size k_p_numbers k_p_size k_firms k_tied k_wars k_wet k_day k_drawn f_depths f_bars f_ways d_letters d_t_kinds d_t_holds d_t_barred d_t_parties d_t_size d_size d_at s_lanes s_sizes s_items isKept m_lane m_size m_item m_letters m_tape m_position m_number m_now m_tried m_read m_kept m_isKept m_ways m_wins)) (by with_unfolding_all rfl) ?_
          subst hf
          exact kn_Q_ret (v := some (.int (p2 / (2 : Int32)))) (by with_unfolding_all rfl) ⟨rfl, rfl⟩
        · rw [if_neg hc9] at hf
          by_cases hc10 : p1 = (3 : Int32)
          · rw [if_pos hc10] at hf
            refine kn_Q_tab (x := p1) (kk := (3 : Int32)) (lo := 0) (hi := 3) (d := 71) (ts := [48, 50, 55, 59]) (t := 59) (l := [(3, .int p2), (0, .ref 40), (1, .int p1), (2, .int p2)]) (r := []) (by with_unfolding_all rfl) hc10 (by with_unfolding_all rfl) ?_
            refine kn_P_steps 9 (f1 := (70, [(3, .int p2), (0, .ref 40), (1, .int p1), (2, .int p2)], [.int ((p2 + (10 : Int32)) + ((m_now 0) / (10 : Int32)))])) (h1 := (kn_hp L xs r_t_kinds r_t_holds r_t_barred r_t_parties r_t_size r_p_numbers r_p_size r_firms r_tied r_wars r_wet r_day r_drawn k_t_kinds k_t_holds k_t_barred k_t_parties k_t_size k_p_numbers k_p_size k_firms k_tied k_wars k_wet k_day k_drawn f_depths f_bars f_ways d_letters d_t_kinds d_t_holds d_t_barred d_t_parties d_t_size d_size d_at s_lanes s_sizes s_items isKept m_lane m_size m_item m_letters m_tape m_position m_number m_now m_tried m_read m_kept m_isKept m_ways m_wins)) (by with_unfolding_all rfl) ?_
            subst hf
            exact kn_Q_ret (v := some (.int ((p2 + (10 : Int32)) + ((m_now 0) / (10 : Int32))))) (by with_unfolding_all rfl) ⟨rfl, rfl⟩
          · rw [if_neg hc10] at hf
            refine kn_Q_tabN (x := p1) (lo := 0) (hi := 3) (ts := [48, 50, 55, 59]) (d := 71) (l := [(3, .int p2), (0, .ref 40), (1, .int p1), (2, .int p2)]) (r := []) (by with_unfolding_all rfl) (kn_tab_out (0) (3) 4 (by decide) (fun j hj => match j, hj with
              | 0, _ => hc7
              | 1, _ => hc8
              | 2, _ => hc9
              | 3, _ => hc10
              | j + 4, hj => absurd hj (by omega))) ?_
            refine kn_P_steps 5 (f1 := (77, [(3, .int p2), (0, .ref 40), (1, .int p1), (2, .int p2)], [.int ((m_now 0) - (m_now 0) / (7 : Int32) * (7 : Int32))])) (h1 := (kn_hp L xs r_t_kinds r_t_holds r_t_barred r_t_parties r_t_size r_p_numbers r_p_size r_firms r_tied r_wars r_wet r_day r_drawn k_t_kinds k_t_holds k_t_barred k_t_parties k_t_size k_p_numbers k_p_size k_firms k_tied k_wars k_wet k_day k_drawn f_depths f_bars f_ways d_letters d_t_kinds d_t_holds d_t_barred d_t_parties d_t_size d_size d_at s_lanes s_sizes s_items isKept m_lane m_size m_item m_letters m_tape m_position m_number m_now m_tried m_read m_kept m_isKept m_ways m_wins)) (by with_unfolding_all rfl) ?_
            refine kn_Q_if (c := ((m_now 0) - (m_now 0) / (7 : Int32) * (7 : Int32)) = (0 : Int32)) (t := 80) (n := 84) (l1 := [(3, .int p2), (0, .ref 40), (1, .int p1), (2, .int p2)]) (s1 := []) (by with_unfolding_all rfl) (fun hc11 => ?_) (fun hc11 => ?_)
            · rw [if_pos hc11] at hf
              refine kn_P_steps 2 (f1 := (87, [(3, .int p2), (0, .ref 40), (1, .int p1), (2, .int p2)], [.int (0 : Int32)])) (h1 := (kn_hp L xs r_t_kinds r_t_holds r_t_barred r_t_parties r_t_size r_p_numbers r_p_size r_firms r_tied r_wars r_wet r_day r_drawn k_t_kinds k_t_holds k_t_barred k_t_parties k_t_size k_p_numbers k_p_size k_firms k_tied k_wars k_wet k_day k_drawn f_depths f_bars f_ways d_letters d_t_kinds d_t_holds d_t_barred d_t_parties d_t_size d_size d_at s_lanes s_sizes s_items isKept m_lane m_size m_item m_letters m_tape m_position m_number m_now m_tried m_read m_kept m_isKept m_ways m_wins)) (by with_unfolding_all rfl) ?_
              subst hf
              exact kn_Q_ret (v := some (.int (0 : Int32))) (by with_unfolding_all rfl) ⟨rfl, rfl⟩
            · rw [if_neg hc11] at hf
              refine kn_P_steps 3 (f1 := (87, [(3, .int p2), (0, .ref 40), (1, .int p1), (2, .int p2)], [.int (p2 / (2 : Int32))])) (h1 := (kn_hp L xs r_t_kinds r_t_holds r_t_barred r_t_parties r_t_size r_p_numbers r_p_size r_firms r_tied r_wars r_wet r_day r_drawn k_t_kinds k_t_holds k_t_barred k_t_parties k_t_size k_p_numbers k_p_size k_firms k_tied k_wars k_wet k_day k_drawn f_depths f_bars f_ways d_letters d_t_kinds d_t_holds d_t_barred d_t_parties d_t_size d_size d_at s_lanes s_sizes s_items isKept m_lane m_size m_item m_letters m_tape m_position m_number m_now m_tried m_read m_kept m_isKept m_ways m_wins)) (by with_unfolding_all rfl) ?_
              subst hf
              exact kn_Q_ret (v := some (.int (p2 / (2 : Int32)))) (by with_unfolding_all rfl) ⟨rfl, rfl⟩
set_option maxRecDepth 100000 in
set_option maxHeartbeats 4000000 in
theorem mt_X7_firm {p1 : Int32} {r9 : Int32} (hf : f_X7_firm m_now p1 = some r9) : kn_Post kn_T km_X7_firm (0, [(0, .ref 40), (1, .int p1)], []) (kn_hp L xs r_t_kinds r_t_holds r_t_barred r_t_parties r_t_size r_p_numbers r_p_size r_firms r_tied r_wars r_wet r_day r_drawn k_t_kinds k_t_holds k_t_barred k_t_parties k_t_size k_p_numbers k_p_size k_firms k_tied k_wars k_wet k_day k_drawn f_depths f_bars f_ways d_letters d_t_kinds d_t_holds d_t_barred d_t_parties d_t_size d_size d_at s_lanes s_sizes s_items isKept m_lane m_size m_item m_letters m_tape m_position m_number m_now m_tried m_read m_kept m_isKept m_ways m_wins) (fun v9 h9 => v9 = some (.int r9) ∧ h9 = (kn_hp L xs r_t_kinds r_t_holds r_t_barred r_t_parties r_t_size r_p_numbers r_p_size r_firms r_tied r_wars r_wet r_day r_drawn k_t_kinds k_t_holds k_t_barred k_t_parties k_t_size k_p_numbers k_p_size k_firms k_tied k_wars k_wet k_day k_drawn f_depths f_bars f_ways d_letters d_t_kinds d_t_holds d_t_barred d_t_parties d_t_size d_size d_at s_lanes s_sizes s_items isKept m_lane m_size m_item m_letters m_tape m_position m_number m_now m_tried m_read m_kept m_isKept m_ways m_wins)) := by
  unfold f_X7_firm at hf
  refine kn_P_steps 5 (f1 := (6, [(0, .ref 40), (1, .int p1)], [.int ((6 : Int32) + p1), .ref 40, .ref 40])) (h1 := (kn_hp L xs r_t_kinds r_t_holds r_t_barred r_t_parties r_t_size r_p_numbers r_p_size r_firms r_tied r_wars r_wet r_day r_drawn k_t_kinds k_t_holds k_t_barred k_t_parties k_t_size k_p_numbers k_p_size k_firms k_tied k_wars k_wet k_day k_drawn f_depths f_bars f_ways d_letters d_t_kinds d_t_holds d_t_barred d_t_parties d_t_size d_size d_at s_lanes s_sizes s_items isKept m_lane m_size m_item m_letters m_tape m_position m_number m_now m_tried m_read m_kept m_isKept m_ways m_wins)) (by with_unfolding_all rfl) ?_
  by_cases hb1 : ((6 : Int32) + p1) < 0 ∨ 79 ≤ (((6 : Int32) + p1)).toNatClampNeg
  · rw [if_pos hb1] at hf; cases hf
  · rw [if_neg hb1] at hf
    refine kn_Q_ok (c := ((6 : Int32) + p1) < 0 ∨ 79 ≤ (((6 : Int32) + p1)).toNatClampNeg) (t := 7) (l1 := [(0, .ref 40), (1, .int p1)]) (s1 := [.int (m_now (((6 : Int32) + p1)).toNatClampNeg), .ref 40]) (h1 := (kn_hp L xs r_t_kinds r_t_holds r_t_barred r_t_parties r_t_size r_p_numbers r_p_size r_firms r_tied r_wars r_wet r_day r_drawn k_t_kinds k_t_holds k_t_barred k_t_parties k_t_size k_p_numbers k_p_size k_firms k_tied k_wars k_wet k_day k_drawn f_depths f_bars f_ways d_letters d_t_kinds d_t_holds d_t_barred d_t_parties d_t_size d_size d_at s_lanes s_sizes s_items isKept m_lane m_size m_item m_letters m_tape m_position m_number m_now m_tried m_read m_kept m_isKept m_ways m_wins)) (by with_unfolding_all rfl) hb1 ?_
    refine kn_P_steps 4 (f1 := (12, [(0, .ref 40), (1, .int p1)], [.int ((14 : Int32) + p1), .ref 40, .int (m_now (((6 : Int32) + p1)).toNatClampNeg), .ref 40])) (h1 := (kn_hp L xs r_t_kinds r_t_holds r_t_barred r_t_parties r_t_size r_p_numbers r_p_size r_firms r_tied r_wars r_wet r_day r_drawn k_t_kinds k_t_holds k_t_barred k_t_parties k_t_size k_p_numbers k_p_size k_firms k_tied k_wars k_wet k_day k_drawn f_depths f_bars f_ways d_letters d_t_kinds d_t_holds d_t_barred d_t_parties d_t_size d_size d_at s_lanes s_sizes s_items isKept m_lane m_size m_item m_letters m_tape m_position m_number m_now m_tried m_read m_kept m_isKept m_ways m_wins)) (by with_unfolding_all rfl) ?_
    by_cases hb2 : ((14 : Int32) + p1) < 0 ∨ 79 ≤ (((14 : Int32) + p1)).toNatClampNeg
    · rw [if_pos hb2] at hf; cases hf
    · rw [if_neg hb2] at hf
      refine kn_Q_ok (c := ((14 : Int32) + p1) < 0 ∨ 79 ≤ (((14 : Int32) + p1)).toNatClampNeg) (t := 13) (l1 := [(0, .ref 40), (1, .int p1)]) (s1 := [.int (m_now (((14 : Int32) + p1)).toNatClampNeg), .int (m_now (((6 : Int32) + p1)).toNatClampNeg), .ref 40]) (h1 := (kn_hp L xs r_t_kinds r_t_holds r_t_barred r_t_parties r_t_size r_p_numbers r_p_size r_firms r_tied r_wars r_wet r_day r_drawn k_t_kinds k_t_holds k_t_barred k_t_parties k_t_size k_p_numbers k_p_size k_firms k_tied k_wars k_wet k_day k_drawn f_depths f_bars f_ways d_letters d_t_kinds d_t_holds d_t_barred d_t_parties d_t_size d_size d_at s_lanes s_sizes s_items isKept m_lane m_size m_item m_letters m_tape m_position m_number m_now m_tried m_read m_kept m_isKept m_ways m_wins)) (by with_unfolding_all rfl) hb2 ?_
      refine kn_Q_call (M1 := km_X7_firmBy) (j := 113) (as := [.ref 40, .int (m_now (((6 : Int32) + p1)).toNatClampNeg), .int (m_now (((14 : Int32) + p1)).toNatClampNeg)]) (f1 := (16, [(0, .ref 40), (1, .int p1)], [])) (f0 := (0, [(0, .ref 40), (1, .int (m_now (((6 : Int32) + p1)).toNatClampNeg)), (2, .int (m_now (((14 : Int32) + p1)).toNatClampNeg))], [])) (by with_unfolding_all rfl) (by with_unfolding_all rfl) (by with_unfolding_all rfl) (mt_X7_firmBy rfl) (fun v9 h9 q9 => ?_)
      obtain ⟨rfl, rfl⟩ := q9
      replace hf := Option.some.inj hf
      subst hf
      exact kn_Q_ret (v := some (.int (f_X7_firmBy m_now (m_now (((6 : Int32) + p1)).toNatClampNeg) (m_now (((14 : Int32) + p1)).toNatClampNeg)))) (by with_unfolding_all rfl) ⟨rfl, rfl⟩
set_option maxRecDepth 100000 in
set_option maxHeartbeats 4000000 in
theorem mt_X7_of {p1 : Int32} {p2 : Int32} {r9 : Int32} (hf : f_X7_of m_now p1 p2 = some r9) : kn_Post kn_T km_X7_of (0, [(0, .ref 35), (1, .int p1), (2, .int p2)], []) (kn_hp L xs r_t_kinds r_t_holds r_t_barred r_t_parties r_t_size r_p_numbers r_p_size r_firms r_tied r_wars r_wet r_day r_drawn k_t_kinds k_t_holds k_t_barred k_t_parties k_t_size k_p_numbers k_p_size k_firms k_tied k_wars k_wet k_day k_drawn f_depths f_bars f_ways d_letters d_t_kinds d_t_holds d_t_barred d_t_parties d_t_size d_size d_at s_lanes s_sizes s_items isKept m_lane m_size m_item m_letters m_tape m_position m_number m_now m_tried m_read m_kept m_isKept m_ways m_wins) (fun v9 h9 => v9 = some (.int r9) ∧ h9 = (kn_hp L xs r_t_kinds r_t_holds r_t_barred r_t_parties r_t_size r_p_numbers r_p_size r_firms r_tied r_wars r_wet r_day r_drawn k_t_kinds k_t_holds k_t_barred k_t_parties k_t_size k_p_numbers k_p_size k_firms k_tied k_wars k_wet k_day k_drawn f_depths f_bars f_ways d_letters d_t_kinds d_t_holds d_t_barred d_t_parties d_t_size d_size d_at s_lanes s_sizes s_items isKept m_lane m_size m_item m_letters m_tape m_position m_number m_now m_tried m_read m_kept m_isKept m_ways m_wins)) := by
  unfold f_X7_of at hf
  refine kn_P_steps 2 (f1 := (2, [(0, .ref 35), (1, .int p1), (2, .int p2)], [.int p1, .ref 35])) (h1 := (kn_hp L xs r_t_kinds r_t_holds r_t_barred r_t_parties r_t_size r_p_numbers r_p_size r_firms r_tied r_wars r_wet r_day r_drawn k_t_kinds k_t_holds k_t_barred k_t_parties k_t_size k_p_numbers k_p_size k_firms k_tied k_wars k_wet k_day k_drawn f_depths f_bars f_ways d_letters d_t_kinds d_t_holds d_t_barred d_t_parties d_t_size d_size d_at s_lanes s_sizes s_items isKept m_lane m_size m_item m_letters m_tape m_position m_number m_now m_tried m_read m_kept m_isKept m_ways m_wins)) (by with_unfolding_all rfl) ?_
  refine kn_Q_call (M1 := km_X7_isClause) (j := 110) (as := [.ref 35, .int p1]) (f1 := (5, [(0, .ref 35), (1, .int p1), (2, .int p2)], [])) (f0 := (0, [(0, .ref 35), (1, .int p1)], [])) (by with_unfolding_all rfl) (by with_unfolding_all rfl) (by with_unfolding_all rfl) (mt_X7_isClause rfl) (fun v9 h9 q9 => ?_)
  obtain ⟨rfl, rfl, hz1⟩ := q9
  refine kn_Q_if (c := (f_X7_isClause m_now p1) = (0 : Int32)) (t := 8) (n := 10) (l1 := [(0, .ref 35), (1, .int p1), (2, .int p2)]) (s1 := []) (by with_unfolding_all rfl) (fun hc2 => ?_) (fun hc2 => ?_)
  · rw [if_pos hc2] at hf
    refine kn_P_steps 1 (f1 := (9, [(0, .ref 35), (1, .int p1), (2, .int p2)], [.int (-1 : Int32)])) (h1 := (kn_hp L xs r_t_kinds r_t_holds r_t_barred r_t_parties r_t_size r_p_numbers r_p_size r_firms r_tied r_wars r_wet r_day r_drawn k_t_kinds k_t_holds k_t_barred k_t_parties k_t_size k_p_numbers k_p_size k_firms k_tied k_wars k_wet k_day k_drawn f_depths f_bars f_ways d_letters d_t_kinds d_t_holds d_t_barred d_t_parties d_t_size d_size d_at s_lanes s_sizes s_items isKept m_lane m_size m_item m_letters m_tape m_position m_number m_now m_tried m_read m_kept m_isKept m_ways m_wins)) (by with_unfolding_all rfl) ?_
    replace hf := Option.some.inj hf
    subst hf
    exact kn_Q_ret (v := some (.int (-1 : Int32))) (by with_unfolding_all rfl) ⟨rfl, rfl⟩
  · rw [if_neg hc2] at hf
    refine kn_P_steps 1 (f1 := (11, [(0, .ref 35), (1, .int p1), (2, .int p2)], [.int p2])) (h1 := (kn_hp L xs r_t_kinds r_t_holds r_t_barred r_t_parties r_t_size r_p_numbers r_p_size r_firms r_tied r_wars r_wet r_day r_drawn k_t_kinds k_t_holds k_t_barred k_t_parties k_t_size k_p_numbers k_p_size k_firms k_tied k_wars k_wet k_day k_drawn f_depths f_bars f_ways d_letters d_t_kinds d_t_holds d_t_barred d_t_parties d_t_size d_size d_at s_lanes s_sizes s_items isKept m_lane m_size m_item m_letters m_tape m_position m_number m_now m_tried m_read m_kept m_isKept m_ways m_wins)) (by with_unfolding_all rfl) ?_
    by_cases hc3 : p2 = (0 : Int32)
    · rw [if_pos hc3] at hf
      refine kn_Q_tab (x := p2) (kk := (0 : Int32)) (lo := 0) (hi := 6) (d := 135) (ts := [52, 62, 72, 82, 92, 103, 126]) (t := 52) (l := [(0, .ref 35), (1, .int p1), (2, .int p2)]) (r := []) (by with_unfolding_all rfl) hc3 (by with_unfolding_all rfl) ?_
      refine kn_P_steps 5 (f1 := (60, [(0, .ref 35), (1, .int p1), (2, .int p2)], [.int ((6 : Int32) + p1), .ref 40])) (h1 := (kn_hp L xs r_t_kinds r_t_holds r_t_barred r_t_parties r_t_size r_p_numbers r_p_size r_firms r_tied r_wars r_wet r_day r_drawn k_t_kinds k_t_holds k_t_barred k_t_parties k_t_size k_p_numbers k_p_size k_firms k_tied k_wars k_wet k_day k_drawn f_depths f_bars f_ways d_letters d_t_kinds d_t_holds d_t_barred d_t_parties d_t_size d_size d_at s_lanes s_sizes s_items isKept m_lane m_size m_item m_letters m_tape m_position m_number m_now m_tried m_read m_kept m_isKept m_ways m_wins)) (by with_unfolding_all rfl) ?_
      by_cases hb4 : ((6 : Int32) + p1) < 0 ∨ 79 ≤ (((6 : Int32) + p1)).toNatClampNeg
      · rw [if_pos hb4] at hf; cases hf
      · rw [if_neg hb4] at hf
        refine kn_Q_ok (c := ((6 : Int32) + p1) < 0 ∨ 79 ≤ (((6 : Int32) + p1)).toNatClampNeg) (t := 61) (l1 := [(0, .ref 35), (1, .int p1), (2, .int p2)]) (s1 := [.int (m_now (((6 : Int32) + p1)).toNatClampNeg)]) (h1 := (kn_hp L xs r_t_kinds r_t_holds r_t_barred r_t_parties r_t_size r_p_numbers r_p_size r_firms r_tied r_wars r_wet r_day r_drawn k_t_kinds k_t_holds k_t_barred k_t_parties k_t_size k_p_numbers k_p_size k_firms k_tied k_wars k_wet k_day k_drawn f_depths f_bars f_ways d_letters d_t_kinds d_t_holds d_t_barred d_t_parties d_t_size d_size d_at s_lanes s_sizes s_items isKept m_lane m_size m_item m_letters m_tape m_position m_number m_now m_tried m_read m_kept m_isKept m_ways m_wins)) (by with_unfolding_all rfl) hb4 ?_
        replace hf := Option.some.inj hf
        subst hf
        exact kn_Q_ret (v := some (.int (m_now (((6 : Int32) + p1)).toNatClampNeg))) (by with_unfolding_all rfl) ⟨rfl, rfl⟩
    · rw [if_neg hc3] at hf
      by_cases hc5 : p2 = (1 : Int32)
      · rw [if_pos hc5] at hf
        refine kn_Q_tab (x := p2) (kk := (1 : Int32)) (lo := 0) (hi := 6) (d := 135) (ts := [52, 62, 72, 82, 92, 103, 126]) (t := 62) (l := [(0, .ref 35), (1, .int p1), (2, .int p2)]) (r := []) (by with_unfolding_all rfl) hc5 (by with_unfolding_all rfl) ?_
        refine kn_P_steps 5 (f1 := (70, [(0, .ref 35), (1, .int p1), (2, .int p2)], [.int ((14 : Int32) + p1), .ref 40])) (h1 := (kn_hp L xs r_t_kinds r_t_holds r_t_barred r_t_parties r_t_size r_p_numbers r_p_size r_firms r_tied r_wars r_wet r_day r_drawn k_t_kinds k_t_holds k_t_barred k_t_parties k_t_size k_p_numbers k_p_size k_firms k_tied k_wars k_wet k_day k_drawn f_depths f_bars f_ways d_letters d_t_kinds d_t_holds d_t_barred d_t_parties d_t_size d_size d_at s_lanes s_sizes s_items isKept m_lane m_size m_item m_letters m_tape m_position m_number m_now m_tried m_read m_kept m_isKept m_ways m_wins)) (by with_unfolding_all rfl) ?_
        by_cases hb6 : ((14 : Int32) + p1) < 0 ∨ 79 ≤ (((14 : Int32) + p1)).toNatClampNeg
        · rw [if_pos hb6] at hf; cases hf
        · rw [if_neg hb6] at hf
          refine kn_Q_ok (c := ((14 : Int32) + p1) < 0 ∨ 79 ≤ (((14 : Int32) + p1)).toNatClampNeg) (t := 71) (l1 := [(0, .ref 35), (1, .int p1), (2, .int p2)]) (s1 := [.int (m_now (((14 : Int32) + p1)).toNatClampNeg)]) (h1 := (kn_hp L xs r_t_kinds r_t_holds r_t_barred r_t_parties r_t_size r_p_numbers r_p_size r_firms r_tied r_wars r_wet r_day r_drawn k_t_kinds k_t_holds k_t_barred k_t_parties k_t_size k_p_numbers k_p_size k_firms k_tied k_wars k_wet k_day k_drawn f_depths f_bars f_ways d_letters d_t_kinds d_t_holds d_t_barred d_t_parties d_t_size d_size d_at s_lanes s_sizes s_items isKept m_lane m_size m_item m_letters m_tape m_position m_number m_now m_tried m_read m_kept m_isKept m_ways m_wins)) (by with_unfolding_all rfl) hb6 ?_
          replace hf := Option.some.inj hf
          subst hf
          exact kn_Q_ret (v := some (.int (m_now (((14 : Int32) + p1)).toNatClampNeg))) (by with_unfolding_all rfl) ⟨rfl, rfl⟩
      · rw [if_neg hc5] at hf
        by_cases hc7 : p2 = (2 : Int32)
        · rw [if_pos hc7] at hf
          refine kn_Q_tab (x := p2) (kk := (2 : Int32)) (lo := 0) (hi := 6) (d := 135) (ts := [52, 62, 72, 82, 92, 103, 126]) (t := 72) (l := [(0, .ref 35), (1, .int p1), (2, .int p2)]) (r := []) (by with_unfolding_all rfl) hc7 (by with_unfolding_all rfl) ?_
          refine kn_P_steps 5 (f1 := (80, [(0, .ref 35), (1, .int p1), (2, .int p2)], [.int ((22 : Int32) + p1), .ref 40])) (h1 := (kn_hp L xs r_t_kinds r_t_holds r_t_barred r_t_parties r_t_size r_p_numbers r_p_size r_firms r_tied r_wars r_wet r_day r_drawn k_t_kinds k_t_holds k_t_barred k_t_parties k_t_size k_p_numbers k_p_size k_firms k_tied k_wars k_wet k_day k_drawn f_depths f_bars f_ways d_letters d_t_kinds d_t_holds d_t_barred d_t_parties d_t_size d_size d_at s_lanes s_sizes s_items isKept m_lane m_size m_item m_letters m_tape m_position m_number m_now m_tried m_read m_kept m_isKept m_ways m_wins)) (by with_unfolding_all rfl) ?_
          by_cases hb8 : ((22 : Int32) + p1) < 0 ∨ 79 ≤ (((22 : Int32) + p1)).toNatClampNeg
          · rw [if_pos hb8] at hf; cases hf
          · rw [if_neg hb8] at hf
            refine kn_Q_ok (c := ((22 : Int32) + p1) < 0 ∨ 79 ≤ (((22 : Int32) + p1)).toNatClampNeg) (t := 81) (l1 := [(0, .ref 35), (1, .int p1), (2, .int p2)]) (s1 := [.int (m_now (((22 : Int32) + p1)).toNatClampNeg)]) (h1 := (kn_hp L xs r_t_kinds r_t_holds r_t_barred r_t_parties r_t_size r_p_numbers r_p_size r_firms r_tied r_wars r_wet r_day r_drawn k_t_kinds k_t_holds k_t_barred k_t_parties k_t_size k_p_numbers k_p_size k_firms k_tied k_wars k_wet k_day k_drawn f_depths f_bars f_ways d_letters d_t_kinds d_t_holds d_t_barred d_t_parties d_t_size d_size d_at s_lanes s_sizes s_items isKept m_lane m_size m_item m_letters m_tape m_position m_number m_now m_tried m_read m_kept m_isKept m_ways m_wins)) (by with_unfolding_all rfl) hb8 ?_
            replace hf := Option.some.inj hf
            subst hf
            exact kn_Q_ret (v := some (.int (m_now (((22 : Int32) + p1)).toNatClampNeg))) (by with_unfolding_all rfl) ⟨rfl, rfl⟩
        · rw [if_neg hc7] at hf
          by_cases hc9 : p2 = (3 : Int32)
          · rw [if_pos hc9] at hf
            refine kn_Q_tab (x := p2) (kk := (3 : Int32)) (lo := 0) (hi := 6) (d := 135) (ts := [52, 62, 72, 82, 92, 103, 126]) (t := 82) (l := [(0, .ref 35), (1, .int p1), (2, .int p2)]) (r := []) (by with_unfolding_all rfl) hc9 (by with_unfolding_all rfl) ?_
            refine kn_P_steps 5 (f1 := (90, [(0, .ref 35), (1, .int p1), (2, .int p2)], [.int ((30 : Int32) + p1), .ref 40])) (h1 := (kn_hp L xs r_t_kinds r_t_holds r_t_barred r_t_parties r_t_size r_p_numbers r_p_size r_firms r_tied r_wars r_wet r_day r_drawn k_t_kinds k_t_holds k_t_barred k_t_parties k_t_size k_p_numbers k_p_size k_firms k_tied k_wars k_wet k_day k_drawn f_depths f_bars f_ways d_letters d_t_kinds d_t_holds d_t_barred d_t_parties d_t_size d_size d_at s_lanes s_sizes s_items isKept m_lane m_size m_item m_letters m_tape m_position m_number m_now m_tried m_read m_kept m_isKept m_ways m_wins)) (by with_unfolding_all rfl) ?_
            by_cases hb10 : ((30 : Int32) + p1) < 0 ∨ 79 ≤ (((30 : Int32) + p1)).toNatClampNeg
            · rw [if_pos hb10] at hf; cases hf
            · rw [if_neg hb10] at hf
              refine kn_Q_ok (c := ((30 : Int32) + p1) < 0 ∨ 79 ≤ (((30 : Int32) + p1)).toNatClampNeg) (t := 91) (l1 := [(0, .ref 35), (1, .int p1), (2, .int p2)]) (s1 := [.int (m_now (((30 : Int32) + p1)).toNatClampNeg)]) (h1 := (kn_hp L xs r_t_kinds r_t_holds r_t_barred r_t_parties r_t_size r_p_numbers r_p_size r_firms r_tied r_wars r_wet r_day r_drawn k_t_kinds k_t_holds k_t_barred k_t_parties k_t_size k_p_numbers k_p_size k_firms k_tied k_wars k_wet k_day k_drawn f_depths f_bars f_ways d_letters d_t_kinds d_t_holds d_t_barred d_t_parties d_t_size d_size d_at s_lanes s_sizes s_items isKept m_lane m_size m_item m_letters m_tape m_position m_number m_now m_tried m_read m_kept m_isKept m_ways m_wins)) (by with_unfolding_all rfl) hb10 ?_
              replace hf := Option.some.inj hf
              subst hf
              exact kn_Q_ret (v := some (.int (m_now (((30 : Int32) + p1)).toNatClampNeg))) (by with_unfolding_all rfl) ⟨rfl, rfl⟩
          · rw [if_neg hc9] at hf
            by_cases hc11 : p2 = (4 : Int32)
            · rw [if_pos hc11] at hf
              refine kn_Q_tab (x := p2) (kk := (4 : Int32)) (lo := 0) (hi := 6) (d := 135) (ts := [52, 62, 72, 82, 92, 103, 126]) (t := 92) (l := [(0, .ref 35), (1, .int p1), (2, .int p2)]) (r := []) (by with_unfolding_all rfl) hc11 (by with_unfolding_all rfl) ?_
              refine kn_P_steps 8 (f1 := (102, [(0, .ref 35), (1, .int p1), (2, .int p2)], [.int (((m_now 2) >>> (p1 &&& (31 : Int32))) &&& (1 : Int32))])) (h1 := (kn_hp L xs r_t_kinds r_t_holds r_t_barred r_t_parties r_t_size r_p_numbers r_p_size r_firms r_tied r_wars r_wet r_day r_drawn k_t_kinds k_t_holds k_t_barred k_t_parties k_t_size k_p_numbers k_p_size k_firms k_tied k_wars k_wet k_day k_drawn f_depths f_bars f_ways d_letters d_t_kinds d_t_holds d_t_barred d_t_parties d_t_size d_size d_at s_lanes s_sizes s_items isKept m_lane m_size m_item m_letters m_tape m_position m_number m_now m_tried m_read m_kept m_isKept m_ways m_wins)) (by with_unfolding_all rfl) ?_
              replace hf := Option.some.inj hf
              subst hf
              exact kn_Q_ret (v := some (.int (((m_now 2) >>> (p1 &&& (31 : Int32))) &&& (1 : Int32)))) (by with_unfolding_all rfl) ⟨rfl, rfl⟩
            · rw [if_neg hc11] at hf
              by_cases hc12 : p2 = (5 : Int32)
              · rw [if_pos hc12] at hf
                refine kn_Q_tab (x := p2) (kk := (5 : Int32)) (lo := 0) (hi := 6) (d := 135) (ts := [52, 62, 72, 82, 92, 103, 126]) (t := 103) (l := [(0, .ref 35), (1, .int p1), (2, .int p2)]) (r := []) (by with_unfolding_all rfl) hc12 (by with_unfolding_all rfl) ?_
                refine kn_P_steps 7 (f1 := (114, [(0, .ref 35), (1, .int p1), (2, .int p2)], [.int (m_now 2), .int p1, .ref 40])) (h1 := (kn_hp L xs r_t_kinds r_t_holds r_t_barred r_t_parties r_t_size r_p_numbers r_p_size r_firms r_tied r_wars r_wet r_day r_drawn k_t_kinds k_t_holds k_t_barred k_t_parties k_t_size k_p_numbers k_p_size k_firms k_tied k_wars k_wet k_day k_drawn f_depths f_bars f_ways d_letters d_t_kinds d_t_holds d_t_barred d_t_parties d_t_size d_size d_at s_lanes s_sizes s_items isKept m_lane m_size m_item m_letters m_tape m_position m_number m_now m_tried m_read m_kept m_isKept m_ways m_wins)) (by with_unfolding_all rfl) ?_
                cases e13 : f_X7_isFree m_now p1 (m_now 2) with
                | none => rw [e13] at hf; cases hf
                | some q1 =>
                  rw [e13] at hf
                  dsimp only at hf
                  refine kn_Q_call (M1 := km_X7_isFree) (j := 115) (as := [.ref 40, .int p1, .int (m_now 2)]) (f1 := (117, [(0, .ref 35), (1, .int p1), (2, .int p2)], [])) (f0 := (0, [(0, .ref 40), (1, .int p1), (2, .int (m_now 2))], [])) (by with_unfolding_all rfl) (by with_unfolding_all rfl) (by with_unfolding_all rfl) (mt_X7_isFree e13) (fun v9 h9 q9 => ?_)
                  obtain ⟨rfl, rfl, hz14⟩ := q9
                  refine kn_Q_if (c := q1 = (0 : Int32)) (t := 124) (n := 120) (l1 := [(0, .ref 35), (1, .int p1), (2, .int p2)]) (s1 := []) (by with_unfolding_all rfl) (fun hc15 => ?_) (fun hc15 => ?_)
                  · rw [if_pos hc15] at hf
                    refine kn_P_steps 1 (f1 := (125, [(0, .ref 35), (1, .int p1), (2, .int p2)], [.int (0 : Int32)])) (h1 := (kn_hp L xs r_t_kinds r_t_holds r_t_barred r_t_parties r_t_size r_p_numbers r_p_size r_firms r_tied r_wars r_wet r_day r_drawn k_t_kinds k_t_holds k_t_barred k_t_parties k_t_size k_p_numbers k_p_size k_firms k_tied k_wars k_wet k_day k_drawn f_depths f_bars f_ways d_letters d_t_kinds d_t_holds d_t_barred d_t_parties d_t_size d_size d_at s_lanes s_sizes s_items isKept m_lane m_size m_item m_letters m_tape m_position m_number m_now m_tried m_read m_kept m_isKept m_ways m_wins)) (by with_unfolding_all rfl) ?_
                    replace hf := Option.some.inj hf
                    subst hf
                    exact kn_Q_ret (v := some (.int (0 : Int32))) (by with_unfolding_all rfl) ⟨rfl, rfl⟩
                  · rw [if_neg hc15] at hf
                    refine kn_P_steps 2 (f1 := (125, [(0, .ref 35), (1, .int p1), (2, .int p2)], [.int (1 : Int32)])) (h1 := (kn_hp L xs r_t_kinds r_t_holds r_t_barred r_t_parties r_t_size r_p_numbers r_p_size r_firms r_tied r_wars r_wet r_day r_drawn k_t_kinds k_t_holds k_t_barred k_t_parties k_t_size k_p_numbers k_p_size k_firms k_tied k_wars k_wet k_day k_drawn f_depths f_bars f_ways d_letters d_t_kinds d_t_holds d_t_barred d_t_parties d_t_size d_size d_at s_lanes s_sizes s_items isKept m_lane m_size m_item m_letters m_tape m_position m_number m_now m_tried m_read m_kept m_isKept m_ways m_wins)) (by with_unfolding_all rfl) ?_
                    replace hf := Option.some.inj hf
                    subst hf
                    exact kn_Q_ret (v := some (.int (1 : Int32))) (by with_unfolding_all rfl) ⟨rfl, rfl⟩
              · rw [if_neg hc12] at hf
                by_cases hc16 : p2 = (6 : Int32)
                · rw [if_pos hc16] at hf
                  refine kn_Q_tab (x := p2) (kk := (6 : Int32)) (lo := 0) (hi := 6) (d := 135) (ts := [52, 62, 72, 82, 92, 103, 126]) (t := 126) (l := [(0, .ref 35), (1, .int p1), (2, .int p2)]) (r := []) (by with_unfolding_all rfl) hc16 (by with_unfolding_all rfl) ?_
                  refine kn_P_steps 3 (f1 := (131, [(0, .ref 35), (1, .int p1), (2, .int p2)], [.int p1, .ref 40])) (h1 := (kn_hp L xs r_t_kinds r_t_holds r_t_barred r_t_parties r_t_size r_p_numbers r_p_size r_firms r_tied r_wars r_wet r_day r_drawn k_t_kinds k_t_holds k_t_barred k_t_parties k_t_size k_p_numbers k_p_size k_firms k_tied k_wars k_wet k_day k_drawn f_depths f_bars f_ways d_letters d_t_kinds d_t_holds d_t_barred d_t_parties d_t_size d_size d_at s_lanes s_sizes s_items isKept m_lane m_size m_item m_letters m_tape m_position m_number m_now m_tried m_read m_kept m_isKept m_ways m_wins)) (by with_unfolding_all rfl) ?_
                  cases e17 : f_X7_firm m_now p1 with
                  | none => rw [e17] at hf; cases hf
                  | some q2 =>
                    rw [e17] at hf
                    dsimp only at hf
                    refine kn_Q_call (M1 := km_X7_firm) (j := 114) (as := [.ref 40, .int p1]) (f1 := (134, [(0, .ref 35), (1, .int p1), (2, .int p2)], [])) (f0 := (0, [(0, .ref 40), (1, .int p1)], [])) (by with_unfolding_all rfl) (by with_unfolding_all rfl) (by with_unfolding_all rfl) (mt_X7_firm e17) (fun v9 h9 q9 => ?_)
                    obtain ⟨rfl, rfl⟩ := q9
                    replace hf := Option.some.inj hf
                    subst hf
                    exact kn_Q_ret (v := some (.int q2)) (by with_unfolding_all rfl) ⟨rfl, rfl⟩
                · rw [if_neg hc16] at hf
                  refine kn_Q_tabN (x := p2) (lo := 0) (hi := 6) (ts := [52, 62, 72, 82, 92, 103, 126]) (d := 135) (l := [(0, .ref 35), (1, .int p1), (2, .int p2)]) (r := []) (by with_unfolding_all rfl) (kn_tab_out (0) (6) 7 (by decide) (fun j hj => match j, hj with
                    | 0, _ => hc3
                    | 1, _ => hc5
                    | 2, _ => hc7
                    | 3, _ => hc9
                    | 4, _ => hc11
                    | 5, _ => hc12
                    | 6, _ => hc16
                    | j + 7, hj => absurd hj (by omega))) ?_
                  refine kn_P_steps 1 (f1 := (136, [(0, .ref 35), (1, .int p1), (2, .int p2)], [.int (-1 : Int32)])) (h1 := (kn_hp L xs r_t_kinds r_t_holds r_t_barred r_t_parties r_t_size r_p_numbers r_p_size r_firms r_tied r_wars r_wet r_day r_drawn k_t_kinds k_t_holds k_t_barred k_t_parties k_t_size k_p_numbers k_p_size k_firms k_tied k_wars k_wet k_day k_drawn f_depths f_bars f_ways d_letters d_t_kinds d_t_holds d_t_barred d_t_parties d_t_size d_size d_at s_lanes s_sizes s_items isKept m_lane m_size m_item m_letters m_tape m_position m_number m_now m_tried m_read m_kept m_isKept m_ways m_wins)) (by with_unfolding_all rfl) ?_
                  replace hf := Option.some.inj hf
                  subst hf
                  exact kn_Q_ret (v := some (.int (-1 : Int32))) (by with_unfolding_all rfl) ⟨rfl, rfl⟩
set_option maxRecDepth 100000 in
set_option maxHeartbeats 4000000 in
theorem ml_X0_owedBy_4 : ∀ (n : Nat) (r_t_parties : (Nat → Int32)) (r_t_size : Int32) (v1 : Int32) (v2 : Int32) (v3 : Int32) (r9 : Int32), fl_X0_owedBy_4 n r_t_parties r_t_size v1 v2 v3 = some r9 → kn_Post kn_T km_X0_owedBy (4, [(0, .ref 3), (1, .int v1), (2, .int v2), (3, .int v3)], []) (kn_hp L xs r_t_kinds r_t_holds r_t_barred r_t_parties r_t_size r_p_numbers r_p_size r_firms r_tied r_wars r_wet r_day r_drawn k_t_kinds k_t_holds k_t_barred k_t_parties k_t_size k_p_numbers k_p_size k_firms k_tied k_wars k_wet k_day k_drawn f_depths f_bars f_ways d_letters d_t_kinds d_t_holds d_t_barred d_t_parties d_t_size d_size d_at s_lanes s_sizes s_items isKept m_lane m_size m_item m_letters m_tape m_position m_number m_now m_tried m_read m_kept m_isKept m_ways m_wins) (fun v9 h9 => v9 = some (.int r9) ∧ h9 = (kn_hp L xs r_t_kinds r_t_holds r_t_barred r_t_parties r_t_size r_p_numbers r_p_size r_firms r_tied r_wars r_wet r_day r_drawn k_t_kinds k_t_holds k_t_barred k_t_parties k_t_size k_p_numbers k_p_size k_firms k_tied k_wars k_wet k_day k_drawn f_depths f_bars f_ways d_letters d_t_kinds d_t_holds d_t_barred d_t_parties d_t_size d_size d_at s_lanes s_sizes s_items isKept m_lane m_size m_item m_letters m_tape m_position m_number m_now m_tried m_read m_kept m_isKept m_ways m_wins)) := by
  intro n
  induction n with
  | zero => intro r_t_parties r_t_size v1 v2 v3 r9 hf; cases hf
  | succ n ih =>
    intro r_t_parties r_t_size v1 v2 v3 r9 hf
    rw [fl_X0_owedBy_4] at hf
    refine kn_P_steps 3 (f1 := (9, [(0, .ref 3), (1, .int v1), (2, .int v2), (3, .int v3)], [.int r_t_size, .int v3])) (h1 := (kn_hp L xs r_t_kinds r_t_holds r_t_barred r_t_parties r_t_size r_p_numbers r_p_size r_firms r_tied r_wars r_wet r_day r_drawn k_t_kinds k_t_holds k_t_barred k_t_parties k_t_size k_p_numbers k_p_size k_firms k_tied k_wars k_wet k_day k_drawn f_depths f_bars f_ways d_letters d_t_kinds d_t_holds d_t_barred d_t_parties d_t_size d_size d_at s_lanes s_sizes s_items isKept m_lane m_size m_item m_letters m_tape m_position m_number m_now m_tried m_read m_kept m_isKept m_ways m_wins)) (by with_unfolding_all rfl) ?_
    refine kn_Q_if (c := r_t_size ≤ v3) (t := 40) (n := 12) (l1 := [(0, .ref 3), (1, .int v1), (2, .int v2), (3, .int v3)]) (s1 := []) (by with_unfolding_all rfl) (fun hc1 => ?_) (fun hc1 => ?_)
    · rw [if_pos hc1] at hf
      refine kn_P_steps 1 (f1 := (41, [(0, .ref 3), (1, .int v1), (2, .int v2), (3, .int v3)], [.int v2])) (h1 := (kn_hp L xs r_t_kinds r_t_holds r_t_barred r_t_parties r_t_size r_p_numbers r_p_size r_firms r_tied r_wars r_wet r_day r_drawn k_t_kinds k_t_holds k_t_barred k_t_parties k_t_size k_p_numbers k_p_size k_firms k_tied k_wars k_wet k_day k_drawn f_depths f_bars f_ways d_letters d_t_kinds d_t_holds d_t_barred d_t_parties d_t_size d_size d_at s_lanes s_sizes s_items isKept m_lane m_size m_item m_letters m_tape m_position m_number m_now m_tried m_read m_kept m_isKept m_ways m_wins)) (by with_unfolding_all rfl) ?_
      replace hf := Option.some.inj hf
      subst hf
      exact kn_Q_ret (v := some (.int v2)) (by with_unfolding_all rfl) ⟨rfl, rfl⟩
    · rw [if_neg hc1] at hf
      refine kn_P_steps 2 (f1 := (15, [(0, .ref 3), (1, .int v1), (2, .int v2), (3, .int v3)], [.int (8 : Int32), .int v3])) (h1 := (kn_hp L xs r_t_kinds r_t_holds r_t_barred r_t_parties r_t_size r_p_numbers r_p_size r_firms r_tied r_wars r_wet r_day r_drawn k_t_kinds k_t_holds k_t_barred k_t_parties k_t_size k_p_numbers k_p_size k_firms k_tied k_wars k_wet k_day k_drawn f_depths f_bars f_ways d_letters d_t_kinds d_t_holds d_t_barred d_t_parties d_t_size d_size d_at s_lanes s_sizes s_items isKept m_lane m_size m_item m_letters m_tape m_position m_number m_now m_tried m_read m_kept m_isKept m_ways m_wins)) (by with_unfolding_all rfl) ?_
      refine kn_Q_if (c := (8 : Int32) ≤ v3) (t := 40) (n := 18) (l1 := [(0, .ref 3), (1, .int v1), (2, .int v2), (3, .int v3)]) (s1 := []) (by with_unfolding_all rfl) (fun hc2 => ?_) (fun hc2 => ?_)
      · rw [if_pos hc2] at hf
        refine kn_P_steps 1 (f1 := (41, [(0, .ref 3), (1, .int v1), (2, .int v2), (3, .int v3)], [.int v2])) (h1 := (kn_hp L xs r_t_kinds r_t_holds r_t_barred r_t_parties r_t_size r_p_numbers r_p_size r_firms r_tied r_wars r_wet r_day r_drawn k_t_kinds k_t_holds k_t_barred k_t_parties k_t_size k_p_numbers k_p_size k_firms k_tied k_wars k_wet k_day k_drawn f_depths f_bars f_ways d_letters d_t_kinds d_t_holds d_t_barred d_t_parties d_t_size d_size d_at s_lanes s_sizes s_items isKept m_lane m_size m_item m_letters m_tape m_position m_number m_now m_tried m_read m_kept m_isKept m_ways m_wins)) (by with_unfolding_all rfl) ?_
        replace hf := Option.some.inj hf
        subst hf
        exact kn_Q_ret (v := some (.int v2)) (by with_unfolding_all rfl) ⟨rfl, rfl⟩
      · rw [if_neg hc2] at hf
        refine kn_P_steps 3 (f1 := (23, [(0, .ref 3), (1, .int v1), (2, .int v2), (3, .int v3)], [.int v3, .ref 7])) (h1 := (kn_hp L xs r_t_kinds r_t_holds r_t_barred r_t_parties r_t_size r_p_numbers r_p_size r_firms r_tied r_wars r_wet r_day r_drawn k_t_kinds k_t_holds k_t_barred k_t_parties k_t_size k_p_numbers k_p_size k_firms k_tied k_wars k_wet k_day k_drawn f_depths f_bars f_ways d_letters d_t_kinds d_t_holds d_t_barred d_t_parties d_t_size d_size d_at s_lanes s_sizes s_items isKept m_lane m_size m_item m_letters m_tape m_position m_number m_now m_tried m_read m_kept m_isKept m_ways m_wins)) (by with_unfolding_all rfl) ?_
        by_cases hb3 : v3 < 0 ∨ 8 ≤ (v3).toNatClampNeg
        · rw [if_pos hb3] at hf; cases hf
        · rw [if_neg hb3] at hf
          refine kn_Q_ok (c := v3 < 0 ∨ 8 ≤ (v3).toNatClampNeg) (t := 24) (l1 := [(0, .ref 3), (1, .int v1), (2, .int v2), (3, .int v3)]) (s1 := [.int (r_t_parties (v3).toNatClampNeg)]) (h1 := (kn_hp L xs r_t_kinds r_t_holds r_t_barred r_t_parties r_t_size r_p_numbers r_p_size r_firms r_tied r_wars r_wet r_day r_drawn k_t_kinds k_t_holds k_t_barred k_t_parties k_t_size k_p_numbers k_p_size k_firms k_tied k_wars k_wet k_day k_drawn f_depths f_bars f_ways d_letters d_t_kinds d_t_holds d_t_barred d_t_parties d_t_size d_size d_at s_lanes s_sizes s_items isKept m_lane m_size m_item m_letters m_tape m_position m_number m_now m_tried m_read m_kept m_isKept m_ways m_wins)) (by with_unfolding_all rfl) hb3 ?_
          refine kn_P_steps 1 (f1 := (25, [(0, .ref 3), (1, .int v1), (2, .int v2), (3, .int v3)], [.int v1, .int (r_t_parties (v3).toNatClampNeg)])) (h1 := (kn_hp L xs r_t_kinds r_t_holds r_t_barred r_t_parties r_t_size r_p_numbers r_p_size r_firms r_tied r_wars r_wet r_day r_drawn k_t_kinds k_t_holds k_t_barred k_t_parties k_t_size k_p_numbers k_p_size k_firms k_tied k_wars k_wet k_day k_drawn f_depths f_bars f_ways d_letters d_t_kinds d_t_holds d_t_barred d_t_parties d_t_size d_size d_at s_lanes s_sizes s_items isKept m_lane m_size m_item m_letters m_tape m_position m_number m_now m_tried m_read m_kept m_isKept m_ways m_wins)) (by with_unfolding_all rfl) ?_
          refine kn_Q_if (c := (r_t_parties (v3).toNatClampNeg) = v1) (t := 28) (n := 34) (l1 := [(0, .ref 3), (1, .int v1), (2, .int v2), (3, .int v3)]) (s1 := []) (by with_unfolding_all rfl) (fun hc4 => ?_) (fun hc4 => ?_)
          · rw [if_pos hc4] at hf
            refine kn_P_steps 8 (f1 := (4, [(3, .int (v3 + (1 : Int32))), (2, .int (v2 ||| ((1 : Int32) <<< (v3 &&& (31 : Int32))))), (0, .ref 3), (1, .int v1)], [])) (h1 := (kn_hp L xs r_t_kinds r_t_holds r_t_barred r_t_parties r_t_size r_p_numbers r_p_size r_firms r_tied r_wars r_wet r_day r_drawn k_t_kinds k_t_holds k_t_barred k_t_parties k_t_size k_p_numbers k_p_size k_firms k_tied k_wars k_wet k_day k_drawn f_depths f_bars f_ways d_letters d_t_kinds d_t_holds d_t_barred d_t_parties d_t_size d_size d_at s_lanes s_sizes s_items isKept m_lane m_size m_item m_letters m_tape m_position m_number m_now m_tried m_read m_kept m_isKept m_ways m_wins)) (by with_unfolding_all rfl) ?_
            refine kn_P_pick [2, 3, 1, 0] (l1 := [(0, .ref 3), (1, .int v1), (2, .int (v2 ||| ((1 : Int32) <<< (v3 &&& (31 : Int32))))), (3, .int (v3 + (1 : Int32)))]) (by with_unfolding_all rfl) (by with_unfolding_all rfl) ?_
            exact ih _ _ _ _ _ _ hf
          · rw [if_neg hc4] at hf
            refine kn_P_steps 2 (f1 := (4, [(3, .int (v3 + (1 : Int32))), (0, .ref 3), (1, .int v1), (2, .int v2)], [])) (h1 := (kn_hp L xs r_t_kinds r_t_holds r_t_barred r_t_parties r_t_size r_p_numbers r_p_size r_firms r_tied r_wars r_wet r_day r_drawn k_t_kinds k_t_holds k_t_barred k_t_parties k_t_size k_p_numbers k_p_size k_firms k_tied k_wars k_wet k_day k_drawn f_depths f_bars f_ways d_letters d_t_kinds d_t_holds d_t_barred d_t_parties d_t_size d_size d_at s_lanes s_sizes s_items isKept m_lane m_size m_item m_letters m_tape m_position m_number m_now m_tried m_read m_kept m_isKept m_ways m_wins)) (by with_unfolding_all rfl) ?_
            refine kn_P_pick [1, 2, 3, 0] (l1 := [(0, .ref 3), (1, .int v1), (2, .int v2), (3, .int (v3 + (1 : Int32)))]) (by with_unfolding_all rfl) (by with_unfolding_all rfl) ?_
            exact ih _ _ _ _ _ _ hf
set_option maxRecDepth 100000 in
set_option maxHeartbeats 4000000 in
theorem mt_X0_owedBy {p1 : Int32} {r9 : Int32} (hf : f_X0_owedBy r_t_parties r_t_size p1 = some r9) : kn_Post kn_T km_X0_owedBy (0, [(0, .ref 3), (1, .int p1)], []) (kn_hp L xs r_t_kinds r_t_holds r_t_barred r_t_parties r_t_size r_p_numbers r_p_size r_firms r_tied r_wars r_wet r_day r_drawn k_t_kinds k_t_holds k_t_barred k_t_parties k_t_size k_p_numbers k_p_size k_firms k_tied k_wars k_wet k_day k_drawn f_depths f_bars f_ways d_letters d_t_kinds d_t_holds d_t_barred d_t_parties d_t_size d_size d_at s_lanes s_sizes s_items isKept m_lane m_size m_item m_letters m_tape m_position m_number m_now m_tried m_read m_kept m_isKept m_ways m_wins) (fun v9 h9 => v9 = some (.int r9) ∧ h9 = (kn_hp L xs r_t_kinds r_t_holds r_t_barred r_t_parties r_t_size r_p_numbers r_p_size r_firms r_tied r_wars r_wet r_day r_drawn k_t_kinds k_t_holds k_t_barred k_t_parties k_t_size k_p_numbers k_p_size k_firms k_tied k_wars k_wet k_day k_drawn f_depths f_bars f_ways d_letters d_t_kinds d_t_holds d_t_barred d_t_parties d_t_size d_size d_at s_lanes s_sizes s_items isKept m_lane m_size m_item m_letters m_tape m_position m_number m_now m_tried m_read m_kept m_isKept m_ways m_wins)) := by
  unfold f_X0_owedBy at hf
  refine kn_P_steps 4 (f1 := (4, [(3, .int (0 : Int32)), (2, .int (0 : Int32)), (0, .ref 3), (1, .int p1)], [])) (h1 := (kn_hp L xs r_t_kinds r_t_holds r_t_barred r_t_parties r_t_size r_p_numbers r_p_size r_firms r_tied r_wars r_wet r_day r_drawn k_t_kinds k_t_holds k_t_barred k_t_parties k_t_size k_p_numbers k_p_size k_firms k_tied k_wars k_wet k_day k_drawn f_depths f_bars f_ways d_letters d_t_kinds d_t_holds d_t_barred d_t_parties d_t_size d_size d_at s_lanes s_sizes s_items isKept m_lane m_size m_item m_letters m_tape m_position m_number m_now m_tried m_read m_kept m_isKept m_ways m_wins)) (by with_unfolding_all rfl) ?_
  refine kn_P_pick [2, 3, 1, 0] (l1 := [(0, .ref 3), (1, .int p1), (2, .int (0 : Int32)), (3, .int (0 : Int32))]) (by with_unfolding_all rfl) (by with_unfolding_all rfl) ?_
  exact ml_X0_owedBy_4  300 _ _ _ _ _ _ hf
set_option maxRecDepth 100000 in
set_option maxHeartbeats 4000000 in
theorem mt_X6_party {p1 : Int32} {p2 : Int32} {r9 : Int32} (hf : f_X6_party r_t_parties r_t_size r_tied p1 p2 = some r9) : kn_Post kn_T km_X6_party (0, [(0, .ref 1), (1, .int p1), (2, .int p2)], []) (kn_hp L xs r_t_kinds r_t_holds r_t_barred r_t_parties r_t_size r_p_numbers r_p_size r_firms r_tied r_wars r_wet r_day r_drawn k_t_kinds k_t_holds k_t_barred k_t_parties k_t_size k_p_numbers k_p_size k_firms k_tied k_wars k_wet k_day k_drawn f_depths f_bars f_ways d_letters d_t_kinds d_t_holds d_t_barred d_t_parties d_t_size d_size d_at s_lanes s_sizes s_items isKept m_lane m_size m_item m_letters m_tape m_position m_number m_now m_tried m_read m_kept m_isKept m_ways m_wins) (fun v9 h9 => v9 = some (.int r9) ∧ h9 = (kn_hp L xs r_t_kinds r_t_holds r_t_barred r_t_parties r_t_size r_p_numbers r_p_size r_firms r_tied r_wars r_wet r_day r_drawn k_t_kinds k_t_holds k_t_barred k_t_parties k_t_size k_p_numbers k_p_size k_firms k_tied k_wars k_wet k_day k_drawn f_depths f_bars f_ways d_letters d_t_kinds d_t_holds d_t_barred d_t_parties d_t_size d_size d_at s_lanes s_sizes s_items isKept m_lane m_size m_item m_letters m_tape m_position m_number m_now m_tried m_read m_kept m_isKept m_ways m_wins)) := by
  unfold f_X6_party at hf
  refine kn_P_steps 1 (f1 := (1, [(0, .ref 1), (1, .int p1), (2, .int p2)], [.int p1])) (h1 := (kn_hp L xs r_t_kinds r_t_holds r_t_barred r_t_parties r_t_size r_p_numbers r_p_size r_firms r_tied r_wars r_wet r_day r_drawn k_t_kinds k_t_holds k_t_barred k_t_parties k_t_size k_p_numbers k_p_size k_firms k_tied k_wars k_wet k_day k_drawn f_depths f_bars f_ways d_letters d_t_kinds d_t_holds d_t_barred d_t_parties d_t_size d_size d_at s_lanes s_sizes s_items isKept m_lane m_size m_item m_letters m_tape m_position m_number m_now m_tried m_read m_kept m_isKept m_ways m_wins)) (by with_unfolding_all rfl) ?_
  refine kn_Q_call (M1 := km_X6_isParty) (j := 93) (as := [.int p1]) (f1 := (4, [(0, .ref 1), (1, .int p1), (2, .int p2)], [])) (f0 := (0, [(0, .int p1)], [])) (by with_unfolding_all rfl) (by with_unfolding_all rfl) (by with_unfolding_all rfl) (mt_X6_isParty rfl) (fun v9 h9 q9 => ?_)
  obtain ⟨rfl, rfl, hz1⟩ := q9
  refine kn_Q_if (c := (f_X6_isParty p1) = (0 : Int32)) (t := 16) (n := 7) (l1 := [(0, .ref 1), (1, .int p1), (2, .int p2)]) (s1 := []) (by with_unfolding_all rfl) (fun hc2 => ?_) (fun hc2 => ?_)
  · rw [if_pos hc2] at hf
    refine kn_P_steps 1 (f1 := (17, [(0, .ref 1), (1, .int p1), (2, .int p2)], [.int (-1 : Int32)])) (h1 := (kn_hp L xs r_t_kinds r_t_holds r_t_barred r_t_parties r_t_size r_p_numbers r_p_size r_firms r_tied r_wars r_wet r_day r_drawn k_t_kinds k_t_holds k_t_barred k_t_parties k_t_size k_p_numbers k_p_size k_firms k_tied k_wars k_wet k_day k_drawn f_depths f_bars f_ways d_letters d_t_kinds d_t_holds d_t_barred d_t_parties d_t_size d_size d_at s_lanes s_sizes s_items isKept m_lane m_size m_item m_letters m_tape m_position m_number m_now m_tried m_read m_kept m_isKept m_ways m_wins)) (by with_unfolding_all rfl) ?_
    replace hf := Option.some.inj hf
    subst hf
    exact kn_Q_ret (v := some (.int (-1 : Int32))) (by with_unfolding_all rfl) ⟨rfl, rfl⟩
  · rw [if_neg hc2] at hf
    refine kn_P_steps 3 (f1 := (10, [(0, .ref 1), (1, .int p1), (2, .int p2)], [.int (1 : Int32), .int (0 : Int32), .int p2])) (h1 := (kn_hp L xs r_t_kinds r_t_holds r_t_barred r_t_parties r_t_size r_p_numbers r_p_size r_firms r_tied r_wars r_wet r_day r_drawn k_t_kinds k_t_holds k_t_barred k_t_parties k_t_size k_p_numbers k_p_size k_firms k_tied k_wars k_wet k_day k_drawn f_depths f_bars f_ways d_letters d_t_kinds d_t_holds d_t_barred d_t_parties d_t_size d_size d_at s_lanes s_sizes s_items isKept m_lane m_size m_item m_letters m_tape m_position m_number m_now m_tried m_read m_kept m_isKept m_ways m_wins)) (by with_unfolding_all rfl) ?_
    refine kn_Q_call (M1 := km_X6_isWithin) (j := 91) (as := [.int p2, .int (0 : Int32), .int (1 : Int32)]) (f1 := (13, [(0, .ref 1), (1, .int p1), (2, .int p2)], [])) (f0 := (0, [(0, .int p2), (1, .int (0 : Int32)), (2, .int (1 : Int32))], [])) (by with_unfolding_all rfl) (by with_unfolding_all rfl) (by with_unfolding_all rfl) (mt_X6_isWithin rfl) (fun v9 h9 q9 => ?_)
    obtain ⟨rfl, rfl, hz3⟩ := q9
    refine kn_Q_if (c := (f_X6_isWithin p2 (0 : Int32) (1 : Int32)) = (0 : Int32)) (t := 16) (n := 18) (l1 := [(0, .ref 1), (1, .int p1), (2, .int p2)]) (s1 := []) (by with_unfolding_all rfl) (fun hc4 => ?_) (fun hc4 => ?_)
    · rw [if_pos hc4] at hf
      refine kn_P_steps 1 (f1 := (17, [(0, .ref 1), (1, .int p1), (2, .int p2)], [.int (-1 : Int32)])) (h1 := (kn_hp L xs r_t_kinds r_t_holds r_t_barred r_t_parties r_t_size r_p_numbers r_p_size r_firms r_tied r_wars r_wet r_day r_drawn k_t_kinds k_t_holds k_t_barred k_t_parties k_t_size k_p_numbers k_p_size k_firms k_tied k_wars k_wet k_day k_drawn f_depths f_bars f_ways d_letters d_t_kinds d_t_holds d_t_barred d_t_parties d_t_size d_size d_at s_lanes s_sizes s_items isKept m_lane m_size m_item m_letters m_tape m_position m_number m_now m_tried m_read m_kept m_isKept m_ways m_wins)) (by with_unfolding_all rfl) ?_
      replace hf := Option.some.inj hf
      subst hf
      exact kn_Q_ret (v := some (.int (-1 : Int32))) (by with_unfolding_all rfl) ⟨rfl, rfl⟩
    · rw [if_neg hc4] at hf
      refine kn_P_steps 4 (f1 := (26, [(0, .ref 1), (1, .int p1), (2, .int p2)], [.int p1, .ref 3])) (h1 := (kn_hp L xs r_t_kinds r_t_holds r_t_barred r_t_parties r_t_size r_p_numbers r_p_size r_firms r_tied r_wars r_wet r_day r_drawn k_t_kinds k_t_holds k_t_barred k_t_parties k_t_size k_p_numbers k_p_size k_firms k_tied k_wars k_wet k_day k_drawn f_depths f_bars f_ways d_letters d_t_kinds d_t_holds d_t_barred d_t_parties d_t_size d_size d_at s_lanes s_sizes s_items isKept m_lane m_size m_item m_letters m_tape m_position m_number m_now m_tried m_read m_kept m_isKept m_ways m_wins)) (by with_unfolding_all rfl) ?_
      cases e5 : f_X0_owedBy r_t_parties r_t_size p1 with
      | none => rw [e5] at hf; cases hf
      | some q1 =>
        rw [e5] at hf
        dsimp only at hf
        refine kn_Q_call (M1 := km_X0_owedBy) (j := 2) (as := [.ref 3, .int p1]) (f1 := (29, [(0, .ref 1), (1, .int p1), (2, .int p2)], [])) (f0 := (0, [(0, .ref 3), (1, .int p1)], [])) (by with_unfolding_all rfl) (by with_unfolding_all rfl) (by with_unfolding_all rfl) (mt_X0_owedBy e5) (fun v9 h9 q9 => ?_)
        obtain ⟨rfl, rfl⟩ := q9
        refine kn_P_steps 2 (f1 := (31, [(3, .int q1), (0, .ref 1), (1, .int p1), (2, .int p2)], [.int p2])) (h1 := (kn_hp L xs r_t_kinds r_t_holds r_t_barred r_t_parties r_t_size r_p_numbers r_p_size r_firms r_tied r_wars r_wet r_day r_drawn k_t_kinds k_t_holds k_t_barred k_t_parties k_t_size k_p_numbers k_p_size k_firms k_tied k_wars k_wet k_day k_drawn f_depths f_bars f_ways d_letters d_t_kinds d_t_holds d_t_barred d_t_parties d_t_size d_size d_at s_lanes s_sizes s_items isKept m_lane m_size m_item m_letters m_tape m_position m_number m_now m_tried m_read m_kept m_isKept m_ways m_wins)) (by with_unfolding_all rfl) ?_
        refine kn_Q_if (c := p2 = (0 : Int32)) (t := 34) (n := 36) (l1 := [(3, .int q1), (0, .ref 1), (1, .int p1), (2, .int p2)]) (s1 := []) (by with_unfolding_all rfl) (fun hc6 => ?_) (fun hc6 => ?_)
        · rw [if_pos hc6] at hf
          refine kn_P_steps 1 (f1 := (35, [(3, .int q1), (0, .ref 1), (1, .int p1), (2, .int p2)], [.int q1])) (h1 := (kn_hp L xs r_t_kinds r_t_holds r_t_barred r_t_parties r_t_size r_p_numbers r_p_size r_firms r_tied r_wars r_wet r_day r_drawn k_t_kinds k_t_holds k_t_barred k_t_parties k_t_size k_p_numbers k_p_size k_firms k_tied k_wars k_wet k_day k_drawn f_depths f_bars f_ways d_letters d_t_kinds d_t_holds d_t_barred d_t_parties d_t_size d_size d_at s_lanes s_sizes s_items isKept m_lane m_size m_item m_letters m_tape m_position m_number m_now m_tried m_read m_kept m_isKept m_ways m_wins)) (by with_unfolding_all rfl) ?_
          replace hf := Option.some.inj hf
          subst hf
          exact kn_Q_ret (v := some (.int q1)) (by with_unfolding_all rfl) ⟨rfl, rfl⟩
        · rw [if_neg hc6] at hf
          refine kn_P_steps 5 (f1 := (45, [(3, .int q1), (0, .ref 1), (1, .int p1), (2, .int p2)], [.int (q1 &&& r_tied)])) (h1 := (kn_hp L xs r_t_kinds r_t_holds r_t_barred r_t_parties r_t_size r_p_numbers r_p_size r_firms r_tied r_wars r_wet r_day r_drawn k_t_kinds k_t_holds k_t_barred k_t_parties k_t_size k_p_numbers k_p_size k_firms k_tied k_wars k_wet k_day k_drawn f_depths f_bars f_ways d_letters d_t_kinds d_t_holds d_t_barred d_t_parties d_t_size d_size d_at s_lanes s_sizes s_items isKept m_lane m_size m_item m_letters m_tape m_position m_number m_now m_tried m_read m_kept m_isKept m_ways m_wins)) (by with_unfolding_all rfl) ?_
          refine kn_Q_if (c := (q1 &&& r_tied) = (0 : Int32)) (t := 52) (n := 48) (l1 := [(3, .int q1), (0, .ref 1), (1, .int p1), (2, .int p2)]) (s1 := []) (by with_unfolding_all rfl) (fun hc7 => ?_) (fun hc7 => ?_)
          · rw [if_pos hc7] at hf
            refine kn_P_steps 1 (f1 := (53, [(3, .int q1), (0, .ref 1), (1, .int p1), (2, .int p2)], [.int (0 : Int32)])) (h1 := (kn_hp L xs r_t_kinds r_t_holds r_t_barred r_t_parties r_t_size r_p_numbers r_p_size r_firms r_tied r_wars r_wet r_day r_drawn k_t_kinds k_t_holds k_t_barred k_t_parties k_t_size k_p_numbers k_p_size k_firms k_tied k_wars k_wet k_day k_drawn f_depths f_bars f_ways d_letters d_t_kinds d_t_holds d_t_barred d_t_parties d_t_size d_size d_at s_lanes s_sizes s_items isKept m_lane m_size m_item m_letters m_tape m_position m_number m_now m_tried m_read m_kept m_isKept m_ways m_wins)) (by with_unfolding_all rfl) ?_
            replace hf := Option.some.inj hf
            subst hf
            exact kn_Q_ret (v := some (.int (0 : Int32))) (by with_unfolding_all rfl) ⟨rfl, rfl⟩
          · rw [if_neg hc7] at hf
            refine kn_P_steps 2 (f1 := (53, [(3, .int q1), (0, .ref 1), (1, .int p1), (2, .int p2)], [.int (1 : Int32)])) (h1 := (kn_hp L xs r_t_kinds r_t_holds r_t_barred r_t_parties r_t_size r_p_numbers r_p_size r_firms r_tied r_wars r_wet r_day r_drawn k_t_kinds k_t_holds k_t_barred k_t_parties k_t_size k_p_numbers k_p_size k_firms k_tied k_wars k_wet k_day k_drawn f_depths f_bars f_ways d_letters d_t_kinds d_t_holds d_t_barred d_t_parties d_t_size d_size d_at s_lanes s_sizes s_items isKept m_lane m_size m_item m_letters m_tape m_position m_number m_now m_tried m_read m_kept m_isKept m_ways m_wins)) (by with_unfolding_all rfl) ?_
            replace hf := Option.some.inj hf
            subst hf
            exact kn_Q_ret (v := some (.int (1 : Int32))) (by with_unfolding_all rfl) ⟨rfl, rfl⟩
set_option maxRecDepth 100000 in
set_option maxHeartbeats 4000000 in
theorem ml_X7_owedBy_4 : ∀ (n : Nat) (m_now : (Nat → Int32)) (v1 : Int32) (v2 : Int32) (v3 : Int32) (r9 : Int32), fl_X7_owedBy_4 n m_now v1 v2 v3 = some r9 → kn_Post kn_T km_X7_owedBy (4, [(0, .ref 35), (1, .int v1), (2, .int v2), (3, .int v3)], []) (kn_hp L xs r_t_kinds r_t_holds r_t_barred r_t_parties r_t_size r_p_numbers r_p_size r_firms r_tied r_wars r_wet r_day r_drawn k_t_kinds k_t_holds k_t_barred k_t_parties k_t_size k_p_numbers k_p_size k_firms k_tied k_wars k_wet k_day k_drawn f_depths f_bars f_ways d_letters d_t_kinds d_t_holds d_t_barred d_t_parties d_t_size d_size d_at s_lanes s_sizes s_items isKept m_lane m_size m_item m_letters m_tape m_position m_number m_now m_tried m_read m_kept m_isKept m_ways m_wins) (fun v9 h9 => v9 = some (.int r9) ∧ h9 = (kn_hp L xs r_t_kinds r_t_holds r_t_barred r_t_parties r_t_size r_p_numbers r_p_size r_firms r_tied r_wars r_wet r_day r_drawn k_t_kinds k_t_holds k_t_barred k_t_parties k_t_size k_p_numbers k_p_size k_firms k_tied k_wars k_wet k_day k_drawn f_depths f_bars f_ways d_letters d_t_kinds d_t_holds d_t_barred d_t_parties d_t_size d_size d_at s_lanes s_sizes s_items isKept m_lane m_size m_item m_letters m_tape m_position m_number m_now m_tried m_read m_kept m_isKept m_ways m_wins)) := by
  intro n
  induction n with
  | zero => intro m_now v1 v2 v3 r9 hf; cases hf
  | succ n ih =>
    intro m_now v1 v2 v3 r9 hf
    rw [fl_X7_owedBy_4] at hf
    refine kn_P_steps 5 (f1 := (11, [(0, .ref 35), (1, .int v1), (2, .int v2), (3, .int v3)], [.int (m_now 5), .int v3])) (h1 := (kn_hp L xs r_t_kinds r_t_holds r_t_barred r_t_parties r_t_size r_p_numbers r_p_size r_firms r_tied r_wars r_wet r_day r_drawn k_t_kinds k_t_holds k_t_barred k_t_parties k_t_size k_p_numbers k_p_size k_firms k_tied k_wars k_wet k_day k_drawn f_depths f_bars f_ways d_letters d_t_kinds d_t_holds d_t_barred d_t_parties d_t_size d_size d_at s_lanes s_sizes s_items isKept m_lane m_size m_item m_letters m_tape m_position m_number m_now m_tried m_read m_kept m_isKept m_ways m_wins)) (by with_unfolding_all rfl) ?_
    refine kn_Q_if (c := (m_now 5) ≤ v3) (t := 43) (n := 14) (l1 := [(0, .ref 35), (1, .int v1), (2, .int v2), (3, .int v3)]) (s1 := []) (by with_unfolding_all rfl) (fun hc1 => ?_) (fun hc1 => ?_)
    · rw [if_pos hc1] at hf
      refine kn_P_steps 1 (f1 := (44, [(0, .ref 35), (1, .int v1), (2, .int v2), (3, .int v3)], [.int v2])) (h1 := (kn_hp L xs r_t_kinds r_t_holds r_t_barred r_t_parties r_t_size r_p_numbers r_p_size r_firms r_tied r_wars r_wet r_day r_drawn k_t_kinds k_t_holds k_t_barred k_t_parties k_t_size k_p_numbers k_p_size k_firms k_tied k_wars k_wet k_day k_drawn f_depths f_bars f_ways d_letters d_t_kinds d_t_holds d_t_barred d_t_parties d_t_size d_size d_at s_lanes s_sizes s_items isKept m_lane m_size m_item m_letters m_tape m_position m_number m_now m_tried m_read m_kept m_isKept m_ways m_wins)) (by with_unfolding_all rfl) ?_
      replace hf := Option.some.inj hf
      subst hf
      exact kn_Q_ret (v := some (.int v2)) (by with_unfolding_all rfl) ⟨rfl, rfl⟩
    · rw [if_neg hc1] at hf
      refine kn_P_steps 6 (f1 := (23, [(0, .ref 35), (1, .int v1), (2, .int v2), (3, .int v3)], [.int ((30 : Int32) + v3), .ref 40, .int v2])) (h1 := (kn_hp L xs r_t_kinds r_t_holds r_t_barred r_t_parties r_t_size r_p_numbers r_p_size r_firms r_tied r_wars r_wet r_day r_drawn k_t_kinds k_t_holds k_t_barred k_t_parties k_t_size k_p_numbers k_p_size k_firms k_tied k_wars k_wet k_day k_drawn f_depths f_bars f_ways d_letters d_t_kinds d_t_holds d_t_barred d_t_parties d_t_size d_size d_at s_lanes s_sizes s_items isKept m_lane m_size m_item m_letters m_tape m_position m_number m_now m_tried m_read m_kept m_isKept m_ways m_wins)) (by with_unfolding_all rfl) ?_
      by_cases hb2 : ((30 : Int32) + v3) < 0 ∨ 79 ≤ (((30 : Int32) + v3)).toNatClampNeg
      · rw [if_pos hb2] at hf; cases hf
      · rw [if_neg hb2] at hf
        refine kn_Q_ok (c := ((30 : Int32) + v3) < 0 ∨ 79 ≤ (((30 : Int32) + v3)).toNatClampNeg) (t := 24) (l1 := [(0, .ref 35), (1, .int v1), (2, .int v2), (3, .int v3)]) (s1 := [.int (m_now (((30 : Int32) + v3)).toNatClampNeg), .int v2]) (h1 := (kn_hp L xs r_t_kinds r_t_holds r_t_barred r_t_parties r_t_size r_p_numbers r_p_size r_firms r_tied r_wars r_wet r_day r_drawn k_t_kinds k_t_holds k_t_barred k_t_parties k_t_size k_p_numbers k_p_size k_firms k_tied k_wars k_wet k_day k_drawn f_depths f_bars f_ways d_letters d_t_kinds d_t_holds d_t_barred d_t_parties d_t_size d_size d_at s_lanes s_sizes s_items isKept m_lane m_size m_item m_letters m_tape m_position m_number m_now m_tried m_read m_kept m_isKept m_ways m_wins)) (by with_unfolding_all rfl) hb2 ?_
        refine kn_P_steps 1 (f1 := (25, [(0, .ref 35), (1, .int v1), (2, .int v2), (3, .int v3)], [.int v1, .int (m_now (((30 : Int32) + v3)).toNatClampNeg), .int v2])) (h1 := (kn_hp L xs r_t_kinds r_t_holds r_t_barred r_t_parties r_t_size r_p_numbers r_p_size r_firms r_tied r_wars r_wet r_day r_drawn k_t_kinds k_t_holds k_t_barred k_t_parties k_t_size k_p_numbers k_p_size k_firms k_tied k_wars k_wet k_day k_drawn f_depths f_bars f_ways d_letters d_t_kinds d_t_holds d_t_barred d_t_parties d_t_size d_size d_at s_lanes s_sizes s_items isKept m_lane m_size m_item m_letters m_tape m_position m_number m_now m_tried m_read m_kept m_isKept m_ways m_wins)) (by with_unfolding_all rfl) ?_
        refine kn_Q_if (c := (m_now (((30 : Int32) + v3)).toNatClampNeg) = v1) (t := 28) (n := 34) (l1 := [(0, .ref 35), (1, .int v1), (2, .int v2), (3, .int v3)]) (s1 := [.int v2]) (by with_unfolding_all rfl) (fun hc3 => ?_) (fun hc3 => ?_)
        · rw [if_pos hc3] at hf
          refine kn_P_steps 8 (f1 := (4, [(3, .int (v3 + (1 : Int32))), (2, .int (v2 ||| ((1 : Int32) <<< (v3 &&& (31 : Int32))))), (0, .ref 35), (1, .int v1)], [])) (h1 := (kn_hp L xs r_t_kinds r_t_holds r_t_barred r_t_parties r_t_size r_p_numbers r_p_size r_firms r_tied r_wars r_wet r_day r_drawn k_t_kinds k_t_holds k_t_barred k_t_parties k_t_size k_p_numbers k_p_size k_firms k_tied k_wars k_wet k_day k_drawn f_depths f_bars f_ways d_letters d_t_kinds d_t_holds d_t_barred d_t_parties d_t_size d_size d_at s_lanes s_sizes s_items isKept m_lane m_size m_item m_letters m_tape m_position m_number m_now m_tried m_read m_kept m_isKept m_ways m_wins)) (by with_unfolding_all rfl) ?_
          refine kn_P_pick [2, 3, 1, 0] (l1 := [(0, .ref 35), (1, .int v1), (2, .int (v2 ||| ((1 : Int32) <<< (v3 &&& (31 : Int32))))), (3, .int (v3 + (1 : Int32)))]) (by with_unfolding_all rfl) (by with_unfolding_all rfl) ?_
          exact ih _ _ _ _ _ hf
        · rw [if_neg hc3] at hf
          refine kn_P_steps 5 (f1 := (4, [(3, .int (v3 + (1 : Int32))), (2, .int (v2 ||| (0 : Int32))), (0, .ref 35), (1, .int v1)], [])) (h1 := (kn_hp L xs r_t_kinds r_t_holds r_t_barred r_t_parties r_t_size r_p_numbers r_p_size r_firms r_tied r_wars r_wet r_day r_drawn k_t_kinds k_t_holds k_t_barred k_t_parties k_t_size k_p_numbers k_p_size k_firms k_tied k_wars k_wet k_day k_drawn f_depths f_bars f_ways d_letters d_t_kinds d_t_holds d_t_barred d_t_parties d_t_size d_size d_at s_lanes s_sizes s_items isKept m_lane m_size m_item m_letters m_tape m_position m_number m_now m_tried m_read m_kept m_isKept m_ways m_wins)) (by with_unfolding_all rfl) ?_
          refine kn_P_pick [2, 3, 1, 0] (l1 := [(0, .ref 35), (1, .int v1), (2, .int (v2 ||| (0 : Int32))), (3, .int (v3 + (1 : Int32)))]) (by with_unfolding_all rfl) (by with_unfolding_all rfl) ?_
          exact ih _ _ _ _ _ hf
set_option maxRecDepth 100000 in
set_option maxHeartbeats 4000000 in
theorem mt_X7_owedBy {p1 : Int32} {r9 : Int32} (hf : f_X7_owedBy m_now p1 = some r9) : kn_Post kn_T km_X7_owedBy (0, [(0, .ref 35), (1, .int p1)], []) (kn_hp L xs r_t_kinds r_t_holds r_t_barred r_t_parties r_t_size r_p_numbers r_p_size r_firms r_tied r_wars r_wet r_day r_drawn k_t_kinds k_t_holds k_t_barred k_t_parties k_t_size k_p_numbers k_p_size k_firms k_tied k_wars k_wet k_day k_drawn f_depths f_bars f_ways d_letters d_t_kinds d_t_holds d_t_barred d_t_parties d_t_size d_size d_at s_lanes s_sizes s_items isKept m_lane m_size m_item m_letters m_tape m_position m_number m_now m_tried m_read m_kept m_isKept m_ways m_wins) (fun v9 h9 => v9 = some (.int r9) ∧ h9 = (kn_hp L xs r_t_kinds r_t_holds r_t_barred r_t_parties r_t_size r_p_numbers r_p_size r_firms r_tied r_wars r_wet r_day r_drawn k_t_kinds k_t_holds k_t_barred k_t_parties k_t_size k_p_numbers k_p_size k_firms k_tied k_wars k_wet k_day k_drawn f_depths f_bars f_ways d_letters d_t_kinds d_t_holds d_t_barred d_t_parties d_t_size d_size d_at s_lanes s_sizes s_items isKept m_lane m_size m_item m_letters m_tape m_position m_number m_now m_tried m_read m_kept m_isKept m_ways m_wins)) := by
  unfold f_X7_owedBy at hf
  refine kn_P_steps 4 (f1 := (4, [(3, .int (0 : Int32)), (2, .int (0 : Int32)), (0, .ref 35), (1, .int p1)], [])) (h1 := (kn_hp L xs r_t_kinds r_t_holds r_t_barred r_t_parties r_t_size r_p_numbers r_p_size r_firms r_tied r_wars r_wet r_day r_drawn k_t_kinds k_t_holds k_t_barred k_t_parties k_t_size k_p_numbers k_p_size k_firms k_tied k_wars k_wet k_day k_drawn f_depths f_bars f_ways d_letters d_t_kinds d_t_holds d_t_barred d_t_parties d_t_size d_size d_at s_lanes s_sizes s_items isKept m_lane m_size m_item m_letters m_tape m_position m_number m_now m_tried m_read m_kept m_isKept m_ways m_wins)) (by with_unfolding_all rfl) ?_
  refine kn_P_pick [2, 3, 1, 0] (l1 := [(0, .ref 35), (1, .int p1), (2, .int (0 : Int32)), (3, .int (0 : Int32))]) (by with_unfolding_all rfl) (by with_unfolding_all rfl) ?_
  exact ml_X7_owedBy_4  300 _ _ _ _ _ hf
set_option maxRecDepth 100000 in
set_option maxHeartbeats 4000000 in
theorem mt_X7_party {p1 : Int32} {p2 : Int32} {r9 : Int32} (hf : f_X7_party m_now p1 p2 = some r9) : kn_Post kn_T km_X7_party (0, [(0, .ref 35), (1, .int p1), (2, .int p2)], []) (kn_hp L xs r_t_kinds r_t_holds r_t_barred r_t_parties r_t_size r_p_numbers r_p_size r_firms r_tied r_wars r_wet r_day r_drawn k_t_kinds k_t_holds k_t_barred k_t_parties k_t_size k_p_numbers k_p_size k_firms k_tied k_wars k_wet k_day k_drawn f_depths f_bars f_ways d_letters d_t_kinds d_t_holds d_t_barred d_t_parties d_t_size d_size d_at s_lanes s_sizes s_items isKept m_lane m_size m_item m_letters m_tape m_position m_number m_now m_tried m_read m_kept m_isKept m_ways m_wins) (fun v9 h9 => v9 = some (.int r9) ∧ h9 = (kn_hp L xs r_t_kinds r_t_holds r_t_barred r_t_parties r_t_size r_p_numbers r_p_size r_firms r_tied r_wars r_wet r_day r_drawn k_t_kinds k_t_holds k_t_barred k_t_parties k_t_size k_p_numbers k_p_size k_firms k_tied k_wars k_wet k_day k_drawn f_depths f_bars f_ways d_letters d_t_kinds d_t_holds d_t_barred d_t_parties d_t_size d_size d_at s_lanes s_sizes s_items isKept m_lane m_size m_item m_letters m_tape m_position m_number m_now m_tried m_read m_kept m_isKept m_ways m_wins)) := by
  unfold f_X7_party at hf
  refine kn_P_steps 3 (f1 := (3, [(0, .ref 35), (1, .int p1), (2, .int p2)], [.int (3 : Int32), .int (0 : Int32), .int p1])) (h1 := (kn_hp L xs r_t_kinds r_t_holds r_t_barred r_t_parties r_t_size r_p_numbers r_p_size r_firms r_tied r_wars r_wet r_day r_drawn k_t_kinds k_t_holds k_t_barred k_t_parties k_t_size k_p_numbers k_p_size k_firms k_tied k_wars k_wet k_day k_drawn f_depths f_bars f_ways d_letters d_t_kinds d_t_holds d_t_barred d_t_parties d_t_size d_size d_at s_lanes s_sizes s_items isKept m_lane m_size m_item m_letters m_tape m_position m_number m_now m_tried m_read m_kept m_isKept m_ways m_wins)) (by with_unfolding_all rfl) ?_
  refine kn_Q_call (M1 := km_X7_in) (j := 106) (as := [.int p1, .int (0 : Int32), .int (3 : Int32)]) (f1 := (6, [(0, .ref 35), (1, .int p1), (2, .int p2)], [])) (f0 := (0, [(0, .int p1), (1, .int (0 : Int32)), (2, .int (3 : Int32))], [])) (by with_unfolding_all rfl) (by with_unfolding_all rfl) (by with_unfolding_all rfl) (mt_X7_in rfl) (fun v9 h9 q9 => ?_)
  obtain ⟨rfl, rfl, hz1⟩ := q9
  refine kn_Q_if (c := (f_X7_in p1 (0 : Int32) (3 : Int32)) = (0 : Int32)) (t := 18) (n := 9) (l1 := [(0, .ref 35), (1, .int p1), (2, .int p2)]) (s1 := []) (by with_unfolding_all rfl) (fun hc2 => ?_) (fun hc2 => ?_)
  · rw [if_pos hc2] at hf
    refine kn_P_steps 1 (f1 := (19, [(0, .ref 35), (1, .int p1), (2, .int p2)], [.int (-1 : Int32)])) (h1 := (kn_hp L xs r_t_kinds r_t_holds r_t_barred r_t_parties r_t_size r_p_numbers r_p_size r_firms r_tied r_wars r_wet r_day r_drawn k_t_kinds k_t_holds k_t_barred k_t_parties k_t_size k_p_numbers k_p_size k_firms k_tied k_wars k_wet k_day k_drawn f_depths f_bars f_ways d_letters d_t_kinds d_t_holds d_t_barred d_t_parties d_t_size d_size d_at s_lanes s_sizes s_items isKept m_lane m_size m_item m_letters m_tape m_position m_number m_now m_tried m_read m_kept m_isKept m_ways m_wins)) (by with_unfolding_all rfl) ?_
    replace hf := Option.some.inj hf
    subst hf
    exact kn_Q_ret (v := some (.int (-1 : Int32))) (by with_unfolding_all rfl) ⟨rfl, rfl⟩
  · rw [if_neg hc2] at hf
    refine kn_P_steps 3 (f1 := (12, [(0, .ref 35), (1, .int p1), (2, .int p2)], [.int (1 : Int32), .int (0 : Int32), .int p2])) (h1 := (kn_hp L xs r_t_kinds r_t_holds r_t_barred r_t_parties r_t_size r_p_numbers r_p_size r_firms r_tied r_wars r_wet r_day r_drawn k_t_kinds k_t_holds k_t_barred k_t_parties k_t_size k_p_numbers k_p_size k_firms k_tied k_wars k_wet k_day k_drawn f_depths f_bars f_ways d_letters d_t_kinds d_t_holds d_t_barred d_t_parties d_t_size d_size d_at s_lanes s_sizes s_items isKept m_lane m_size m_item m_letters m_tape m_position m_number m_now m_tried m_read m_kept m_isKept m_ways m_wins)) (by with_unfolding_all rfl) ?_
    refine kn_Q_call (M1 := km_X7_in) (j := 106) (as := [.int p2, .int (0 : Int32), .int (1 : Int32)]) (f1 := (15, [(0, .ref 35), (1, .int p1), (2, .int p2)], [])) (f0 := (0, [(0, .int p2), (1, .int (0 : Int32)), (2, .int (1 : Int32))], [])) (by with_unfolding_all rfl) (by with_unfolding_all rfl) (by with_unfolding_all rfl) (mt_X7_in rfl) (fun v9 h9 q9 => ?_)
    obtain ⟨rfl, rfl, hz3⟩ := q9
    refine kn_Q_if (c := (f_X7_in p2 (0 : Int32) (1 : Int32)) = (0 : Int32)) (t := 18) (n := 20) (l1 := [(0, .ref 35), (1, .int p1), (2, .int p2)]) (s1 := []) (by with_unfolding_all rfl) (fun hc4 => ?_) (fun hc4 => ?_)
    · rw [if_pos hc4] at hf
      refine kn_P_steps 1 (f1 := (19, [(0, .ref 35), (1, .int p1), (2, .int p2)], [.int (-1 : Int32)])) (h1 := (kn_hp L xs r_t_kinds r_t_holds r_t_barred r_t_parties r_t_size r_p_numbers r_p_size r_firms r_tied r_wars r_wet r_day r_drawn k_t_kinds k_t_holds k_t_barred k_t_parties k_t_size k_p_numbers k_p_size k_firms k_tied k_wars k_wet k_day k_drawn f_depths f_bars f_ways d_letters d_t_kinds d_t_holds d_t_barred d_t_parties d_t_size d_size d_at s_lanes s_sizes s_items isKept m_lane m_size m_item m_letters m_tape m_position m_number m_now m_tried m_read m_kept m_isKept m_ways m_wins)) (by with_unfolding_all rfl) ?_
      replace hf := Option.some.inj hf
      subst hf
      exact kn_Q_ret (v := some (.int (-1 : Int32))) (by with_unfolding_all rfl) ⟨rfl, rfl⟩
    · rw [if_neg hc4] at hf
      refine kn_P_steps 1 (f1 := (21, [(0, .ref 35), (1, .int p1), (2, .int p2)], [.int p2])) (h1 := (kn_hp L xs r_t_kinds r_t_holds r_t_barred r_t_parties r_t_size r_p_numbers r_p_size r_firms r_tied r_wars r_wet r_day r_drawn k_t_kinds k_t_holds k_t_barred k_t_parties k_t_size k_p_numbers k_p_size k_firms k_tied k_wars k_wet k_day k_drawn f_depths f_bars f_ways d_letters d_t_kinds d_t_holds d_t_barred d_t_parties d_t_size d_size d_at s_lanes s_sizes s_items isKept m_lane m_size m_item m_letters m_tape m_position m_number m_now m_tried m_read m_kept m_isKept m_ways m_wins)) (by with_unfolding_all rfl) ?_
      refine kn_Q_if (c := p2 = (0 : Int32)) (t := 24) (n := 32) (l1 := [(0, .ref 35), (1, .int p1), (2, .int p2)]) (s1 := []) (by with_unfolding_all rfl) (fun hc5 => ?_) (fun hc5 => ?_)
      · rw [if_pos hc5] at hf
        refine kn_P_steps 2 (f1 := (26, [(0, .ref 35), (1, .int p1), (2, .int p2)], [.int p1, .ref 35])) (h1 := (kn_hp L xs r_t_kinds r_t_holds r_t_barred r_t_parties r_t_size r_p_numbers r_p_size r_firms r_tied r_wars r_wet r_day r_drawn k_t_kinds k_t_holds k_t_barred k_t_parties k_t_size k_p_numbers k_p_size k_firms k_tied k_wars k_wet k_day k_drawn f_depths f_bars f_ways d_letters d_t_kinds d_t_holds d_t_barred d_t_parties d_t_size d_size d_at s_lanes s_sizes s_items isKept m_lane m_size m_item m_letters m_tape m_position m_number m_now m_tried m_read m_kept m_isKept m_ways m_wins)) (by with_unfolding_all rfl) ?_
        cases e6 : f_X7_owedBy m_now p1 with
        | none => rw [e6] at hf; cases hf
        | some q1 =>
          rw [e6] at hf
          dsimp only at hf
          refine kn_Q_call (M1 := km_X7_owedBy) (j := 117) (as := [.ref 35, .int p1]) (f1 := (29, [(0, .ref 35), (1, .int p1), (2, .int p2)], [])) (f0 := (0, [(0, .ref 35), (1, .int p1)], [])) (by with_unfolding_all rfl) (by with_unfolding_all rfl) (by with_unfolding_all rfl) (mt_X7_owedBy e6) (fun v9 h9 q9 => ?_)
          obtain ⟨rfl, rfl⟩ := q9
          refine kn_P_steps 1 (f1 := (52, [(0, .ref 35), (1, .int p1), (2, .int p2)], [.int q1])) (h1 := (kn_hp L xs r_t_kinds r_t_holds r_t_barred r_t_parties r_t_size r_p_numbers r_p_size r_firms r_tied r_wars r_wet r_day r_drawn k_t_kinds k_t_holds k_t_barred k_t_parties k_t_size k_p_numbers k_p_size k_firms k_tied k_wars k_wet k_day k_drawn f_depths f_bars f_ways d_letters d_t_kinds d_t_holds d_t_barred d_t_parties d_t_size d_size d_at s_lanes s_sizes s_items isKept m_lane m_size m_item m_letters m_tape m_position m_number m_now m_tried m_read m_kept m_isKept m_ways m_wins)) (by with_unfolding_all rfl) ?_
          replace hf := Option.some.inj hf
          subst hf
          exact kn_Q_ret (v := some (.int q1)) (by with_unfolding_all rfl) ⟨rfl, rfl⟩
      · rw [if_neg hc5] at hf
        refine kn_P_steps 2 (f1 := (34, [(0, .ref 35), (1, .int p1), (2, .int p2)], [.int p1, .ref 35])) (h1 := (kn_hp L xs r_t_kinds r_t_holds r_t_barred r_t_parties r_t_size r_p_numbers r_p_size r_firms r_tied r_wars r_wet r_day r_drawn k_t_kinds k_t_holds k_t_barred k_t_parties k_t_size k_p_numbers k_p_size k_firms k_tied k_wars k_wet k_day k_drawn f_depths f_bars f_ways d_letters d_t_kinds d_t_holds d_t_barred d_t_parties d_t_size d_size d_at s_lanes s_sizes s_items isKept m_lane m_size m_item m_letters m_tape m_position m_number m_now m_tried m_read m_kept m_isKept m_ways m_wins)) (by with_unfolding_all rfl) ?_
        cases e7 : f_X7_owedBy m_now p1 with
        | none => rw [e7] at hf; cases hf
        | some q2 =>
          rw [e7] at hf
          dsimp only at hf
          refine kn_Q_call (M1 := km_X7_owedBy) (j := 117) (as := [.ref 35, .int p1]) (f1 := (37, [(0, .ref 35), (1, .int p1), (2, .int p2)], [])) (f0 := (0, [(0, .ref 35), (1, .int p1)], [])) (by with_unfolding_all rfl) (by with_unfolding_all rfl) (by with_unfolding_all rfl) (mt_X7_owedBy e7) (fun v9 h9 q9 => ?_)
          obtain ⟨rfl, rfl⟩ := q9
          refine kn_P_steps 5 (f1 := (44, [(0, .ref 35), (1, .int p1), (2, .int p2)], [.int (q2 &&& (m_now 2))])) (h1 := (kn_hp L xs r_t_kinds r_t_holds r_t_barred r_t_parties r_t_size r_p_numbers r_p_size r_firms r_tied r_wars r_wet r_day r_drawn k_t_kinds k_t_holds k_t_barred k_t_parties k_t_size k_p_numbers k_p_size k_firms k_tied k_wars k_wet k_day k_drawn f_depths f_bars f_ways d_letters d_t_kinds d_t_holds d_t_barred d_t_parties d_t_size d_size d_at s_lanes s_sizes s_items isKept m_lane m_size m_item m_letters m_tape m_position m_number m_now m_tried m_read m_kept m_isKept m_ways m_wins)) (by with_unfolding_all rfl) ?_
          refine kn_Q_if (c := (q2 &&& (m_now 2)) = (0 : Int32)) (t := 51) (n := 47) (l1 := [(0, .ref 35), (1, .int p1), (2, .int p2)]) (s1 := []) (by with_unfolding_all rfl) (fun hc8 => ?_) (fun hc8 => ?_)
          · rw [if_pos hc8] at hf
            refine kn_P_steps 1 (f1 := (52, [(0, .ref 35), (1, .int p1), (2, .int p2)], [.int (0 : Int32)])) (h1 := (kn_hp L xs r_t_kinds r_t_holds r_t_barred r_t_parties r_t_size r_p_numbers r_p_size r_firms r_tied r_wars r_wet r_day r_drawn k_t_kinds k_t_holds k_t_barred k_t_parties k_t_size k_p_numbers k_p_size k_firms k_tied k_wars k_wet k_day k_drawn f_depths f_bars f_ways d_letters d_t_kinds d_t_holds d_t_barred d_t_parties d_t_size d_size d_at s_lanes s_sizes s_items isKept m_lane m_size m_item m_letters m_tape m_position m_number m_now m_tried m_read m_kept m_isKept m_ways m_wins)) (by with_unfolding_all rfl) ?_
            replace hf := Option.some.inj hf
            subst hf
            exact kn_Q_ret (v := some (.int (0 : Int32))) (by with_unfolding_all rfl) ⟨rfl, rfl⟩
          · rw [if_neg hc8] at hf
            refine kn_P_steps 2 (f1 := (52, [(0, .ref 35), (1, .int p1), (2, .int p2)], [.int (1 : Int32)])) (h1 := (kn_hp L xs r_t_kinds r_t_holds r_t_barred r_t_parties r_t_size r_p_numbers r_p_size r_firms r_tied r_wars r_wet r_day r_drawn k_t_kinds k_t_holds k_t_barred k_t_parties k_t_size k_p_numbers k_p_size k_firms k_tied k_wars k_wet k_day k_drawn f_depths f_bars f_ways d_letters d_t_kinds d_t_holds d_t_barred d_t_parties d_t_size d_size d_at s_lanes s_sizes s_items isKept m_lane m_size m_item m_letters m_tape m_position m_number m_now m_tried m_read m_kept m_isKept m_ways m_wins)) (by with_unfolding_all rfl) ?_
            replace hf := Option.some.inj hf
            subst hf
            exact kn_Q_ret (v := some (.int (1 : Int32))) (by with_unfolding_all rfl) ⟨rfl, rfl⟩
end KL0
end
