section
-- ===== PART A: goes FIRST, ahead of the names: the tables' words, and 'selects' of the private methods out of them =====
/-- a private method of a class that the tables say can be made, by its rows of tables_1 -/
def lw_okq (q : MethodName × Nat) : Prop := (q.1.cls ≠ "java/lang/invoke/MethodHandle" ∧ q.1.cls ≠ "java/lang/invoke/VarHandle") ∧ Cond.instantiable q.1.cls q.2 ∈ tables_1 ∧ Cond.privateMethod q.1 ∈ tables_1 ∧ Cond.instanceMethod q.1 ∈ tables_1
theorem lw_p0 : lw_okq (⟨"KnotLaw", "isClause", "(I)Z"⟩, 6) := ⟨⟨by decide +kernel, by decide +kernel⟩, List.mem_of_getElem? (i := 13) (by decide +kernel), List.mem_of_getElem? (i := 208) (by decide +kernel), List.mem_of_getElem? (i := 209) (by decide +kernel)⟩
theorem lw_p1 : lw_okq (⟨"KnotLaw$Reader", "readClauses", "()Z"⟩, 4) := ⟨⟨by decide +kernel, by decide +kernel⟩, List.mem_of_getElem? (i := 128) (by decide +kernel), List.mem_of_getElem? (i := 260) (by decide +kernel), List.mem_of_getElem? (i := 261) (by decide +kernel)⟩
theorem lw_p2 : lw_okq (⟨"KnotLaw$Reader", "readClause", "()Z"⟩, 4) := ⟨⟨by decide +kernel, by decide +kernel⟩, List.mem_of_getElem? (i := 128) (by decide +kernel), List.mem_of_getElem? (i := 264) (by decide +kernel), List.mem_of_getElem? (i := 265) (by decide +kernel)⟩
theorem lw_p3 : lw_okq (⟨"KnotLaw$Reader", "nextLetter", "()I"⟩, 4) := ⟨⟨by decide +kernel, by decide +kernel⟩, List.mem_of_getElem? (i := 128) (by decide +kernel), List.mem_of_getElem? (i := 268) (by decide +kernel), List.mem_of_getElem? (i := 269) (by decide +kernel)⟩
theorem lw_p4 : lw_okq (⟨"KnotLaw$Reader", "letterAt", "(I)I"⟩, 4) := ⟨⟨by decide +kernel, by decide +kernel⟩, List.mem_of_getElem? (i := 128) (by decide +kernel), List.mem_of_getElem? (i := 272) (by decide +kernel), List.mem_of_getElem? (i := 273) (by decide +kernel)⟩
theorem lw_p5 : lw_okq (⟨"KnotLaw$Reader", "readHolds", "()I"⟩, 4) := ⟨⟨by decide +kernel, by decide +kernel⟩, List.mem_of_getElem? (i := 128) (by decide +kernel), List.mem_of_getElem? (i := 279) (by decide +kernel), List.mem_of_getElem? (i := 280) (by decide +kernel)⟩
theorem lw_p6 : lw_okq (⟨"KnotLaw$Reader", "readBarred", "()I"⟩, 4) := ⟨⟨by decide +kernel, by decide +kernel⟩, List.mem_of_getElem? (i := 128) (by decide +kernel), List.mem_of_getElem? (i := 287) (by decide +kernel), List.mem_of_getElem? (i := 288) (by decide +kernel)⟩
theorem lw_p7 : lw_okq (⟨"KnotLaw$Foretold", "fillDepths", "(LKnotLaw$Rope;)V"⟩, 3) := ⟨⟨by decide +kernel, by decide +kernel⟩, List.mem_of_getElem? (i := 112) (by decide +kernel), List.mem_of_getElem? (i := 412) (by decide +kernel), List.mem_of_getElem? (i := 413) (by decide +kernel)⟩
theorem lw_p8 : lw_okq (⟨"KnotLaw$Foretold", "deepestAmong", "(I)I"⟩, 3) := ⟨⟨by decide +kernel, by decide +kernel⟩, List.mem_of_getElem? (i := 112) (by decide +kernel), List.mem_of_getElem? (i := 417) (by decide +kernel), List.mem_of_getElem? (i := 418) (by decide +kernel)⟩
theorem lw_p9 : lw_okq (⟨"KnotLaw$Foretold", "fillBars", "(LKnotLaw$Rope;)V"⟩, 3) := ⟨⟨by decide +kernel, by decide +kernel⟩, List.mem_of_getElem? (i := 112) (by decide +kernel), List.mem_of_getElem? (i := 457) (by decide +kernel), List.mem_of_getElem? (i := 458) (by decide +kernel)⟩
theorem lw_p10 : lw_okq (⟨"KnotLaw$Foretold", "countWays", "(I)I"⟩, 3) := ⟨⟨by decide +kernel, by decide +kernel⟩, List.mem_of_getElem? (i := 112) (by decide +kernel), List.mem_of_getElem? (i := 461) (by decide +kernel), List.mem_of_getElem? (i := 462) (by decide +kernel)⟩
theorem lw_p11 : lw_okq (⟨"KnotLaw$Foretold", "waysTo", "(I)I"⟩, 3) := ⟨⟨by decide +kernel, by decide +kernel⟩, List.mem_of_getElem? (i := 112) (by decide +kernel), List.mem_of_getElem? (i := 465) (by decide +kernel), List.mem_of_getElem? (i := 466) (by decide +kernel)⟩
theorem lw_p12 : lw_okq (⟨"KnotLaw$Sheets", "isInside", "(III)Z"⟩, 3) := ⟨⟨by decide +kernel, by decide +kernel⟩, List.mem_of_getElem? (i := 150) (by decide +kernel), List.mem_of_getElem? (i := 533) (by decide +kernel), List.mem_of_getElem? (i := 534) (by decide +kernel)⟩
theorem lw_p13 : lw_okq (⟨"KnotLaw", "areForces", "(III)Z"⟩, 6) := ⟨⟨by decide +kernel, by decide +kernel⟩, List.mem_of_getElem? (i := 13) (by decide +kernel), List.mem_of_getElem? (i := 537) (by decide +kernel), List.mem_of_getElem? (i := 538) (by decide +kernel)⟩
theorem lw_p14 : lw_okq (⟨"KnotLaw", "kindsFelt", "(IIII)I"⟩, 6) := ⟨⟨by decide +kernel, by decide +kernel⟩, List.mem_of_getElem? (i := 13) (by decide +kernel), List.mem_of_getElem? (i := 546) (by decide +kernel), List.mem_of_getElem? (i := 547) (by decide +kernel)⟩
theorem lw_p15 : lw_okq (⟨"KnotLaw", "isAsTold", "(III)Z"⟩, 6) := ⟨⟨by decide +kernel, by decide +kernel⟩, List.mem_of_getElem? (i := 13) (by decide +kernel), List.mem_of_getElem? (i := 551) (by decide +kernel), List.mem_of_getElem? (i := 552) (by decide +kernel)⟩
def lw_privs_1 : List (MethodName × Nat) := [(⟨"KnotLaw", "isClause", "(I)Z"⟩, 6), (⟨"KnotLaw$Reader", "readClauses", "()Z"⟩, 4), (⟨"KnotLaw$Reader", "readClause", "()Z"⟩, 4), (⟨"KnotLaw$Reader", "nextLetter", "()I"⟩, 4), (⟨"KnotLaw$Reader", "letterAt", "(I)I"⟩, 4), (⟨"KnotLaw$Reader", "readHolds", "()I"⟩, 4), (⟨"KnotLaw$Reader", "readBarred", "()I"⟩, 4), (⟨"KnotLaw$Foretold", "fillDepths", "(LKnotLaw$Rope;)V"⟩, 3), (⟨"KnotLaw$Foretold", "deepestAmong", "(I)I"⟩, 3), (⟨"KnotLaw$Foretold", "fillBars", "(LKnotLaw$Rope;)V"⟩, 3), (⟨"KnotLaw$Foretold", "countWays", "(I)I"⟩, 3), (⟨"KnotLaw$Foretold", "waysTo", "(I)I"⟩, 3), (⟨"KnotLaw$Sheets", "isInside", "(III)Z"⟩, 3), (⟨"KnotLaw", "areForces", "(III)Z"⟩, 6), (⟨"KnotLaw", "kindsFelt", "(IIII)I"⟩, 6), (⟨"KnotLaw", "isAsTold", "(III)Z"⟩, 6)]
theorem lw_r1 : ∀ q ∈ lw_privs_1, lw_okq q := List.forall_mem_cons.mpr ⟨lw_p0, List.forall_mem_cons.mpr ⟨lw_p1, List.forall_mem_cons.mpr ⟨lw_p2, List.forall_mem_cons.mpr ⟨lw_p3, List.forall_mem_cons.mpr ⟨lw_p4, List.forall_mem_cons.mpr ⟨lw_p5, List.forall_mem_cons.mpr ⟨lw_p6, List.forall_mem_cons.mpr ⟨lw_p7, List.forall_mem_cons.mpr ⟨lw_p8, List.forall_mem_cons.mpr ⟨lw_p9, List.forall_mem_cons.mpr ⟨lw_p10, List.forall_mem_cons.mpr ⟨lw_p11, List.forall_mem_cons.mpr ⟨lw_p12, List.forall_mem_cons.mpr ⟨lw_p13, List.forall_mem_cons.mpr ⟨lw_p14, List.forall_mem_cons.mpr ⟨lw_p15, fun _ h => absurd h List.not_mem_nil⟩⟩⟩⟩⟩⟩⟩⟩⟩⟩⟩⟩⟩⟩⟩⟩
theorem lw_p16 : lw_okq (⟨"KnotLaw", "holdsFelt", "(IIII)I"⟩, 6) := ⟨⟨by decide +kernel, by decide +kernel⟩, List.mem_of_getElem? (i := 13) (by decide +kernel), List.mem_of_getElem? (i := 555) (by decide +kernel), List.mem_of_getElem? (i := 556) (by decide +kernel)⟩
theorem lw_p17 : lw_okq (⟨"KnotLawModel", "isClause", "(I)Z"⟩, 14) := ⟨⟨by decide +kernel, by decide +kernel⟩, List.mem_of_getElem? (i := 600) (by decide +kernel), List.mem_of_getElem? (i := 664) (by decide +kernel), List.mem_of_getElem? (i := 665) (by decide +kernel)⟩
theorem lw_p18 : lw_okq (⟨"KnotLawModel", "owedBy", "(I)I"⟩, 14) := ⟨⟨by decide +kernel, by decide +kernel⟩, List.mem_of_getElem? (i := 600) (by decide +kernel), List.mem_of_getElem? (i := 684) (by decide +kernel), List.mem_of_getElem? (i := 685) (by decide +kernel)⟩
theorem lw_p19 : lw_okq (⟨"KnotLawModel", "isAgreement", "()Z"⟩, 14) := ⟨⟨by decide +kernel, by decide +kernel⟩, List.mem_of_getElem? (i := 600) (by decide +kernel), List.mem_of_getElem? (i := 700) (by decide +kernel), List.mem_of_getElem? (i := 701) (by decide +kernel)⟩
theorem lw_p20 : lw_okq (⟨"KnotLawModel", "isClauseItem", "()Z"⟩, 14) := ⟨⟨by decide +kernel, by decide +kernel⟩, List.mem_of_getElem? (i := 600) (by decide +kernel), List.mem_of_getElem? (i := 704) (by decide +kernel), List.mem_of_getElem? (i := 705) (by decide +kernel)⟩
theorem lw_p21 : lw_okq (⟨"KnotLawModel", "peek", "()I"⟩, 14) := ⟨⟨by decide +kernel, by decide +kernel⟩, List.mem_of_getElem? (i := 600) (by decide +kernel), List.mem_of_getElem? (i := 708) (by decide +kernel), List.mem_of_getElem? (i := 709) (by decide +kernel)⟩
theorem lw_p22 : lw_okq (⟨"KnotLawModel", "isNumber", "()Z"⟩, 14) := ⟨⟨by decide +kernel, by decide +kernel⟩, List.mem_of_getElem? (i := 600) (by decide +kernel), List.mem_of_getElem? (i := 715) (by decide +kernel), List.mem_of_getElem? (i := 716) (by decide +kernel)⟩
theorem lw_p23 : lw_okq (⟨"KnotLawModel", "isDigit", "(II)Z"⟩, 14) := ⟨⟨by decide +kernel, by decide +kernel⟩, List.mem_of_getElem? (i := 600) (by decide +kernel), List.mem_of_getElem? (i := 719) (by decide +kernel), List.mem_of_getElem? (i := 720) (by decide +kernel)⟩
theorem lw_p24 : lw_okq (⟨"KnotLawModel", "isSign", "(I)Z"⟩, 14) := ⟨⟨by decide +kernel, by decide +kernel⟩, List.mem_of_getElem? (i := 600) (by decide +kernel), List.mem_of_getElem? (i := 723) (by decide +kernel), List.mem_of_getElem? (i := 724) (by decide +kernel)⟩
theorem lw_p25 : lw_okq (⟨"KnotLawModel", "boundOnes", "()I"⟩, 14) := ⟨⟨by decide +kernel, by decide +kernel⟩, List.mem_of_getElem? (i := 600) (by decide +kernel), List.mem_of_getElem? (i := 737) (by decide +kernel), List.mem_of_getElem? (i := 738) (by decide +kernel)⟩
theorem lw_p26 : lw_okq (⟨"KnotLawModel", "note", "()V"⟩, 14) := ⟨⟨by decide +kernel, by decide +kernel⟩, List.mem_of_getElem? (i := 600) (by decide +kernel), List.mem_of_getElem? (i := 745) (by decide +kernel), List.mem_of_getElem? (i := 746) (by decide +kernel)⟩
theorem lw_p27 : lw_okq (⟨"KnotLawModel", "begin", "()V"⟩, 14) := ⟨⟨by decide +kernel, by decide +kernel⟩, List.mem_of_getElem? (i := 600) (by decide +kernel), List.mem_of_getElem? (i := 795) (by decide +kernel), List.mem_of_getElem? (i := 796) (by decide +kernel)⟩
theorem lw_p28 : lw_okq (⟨"KnotLawModel", "needsOf", "(I)I"⟩, 14) := ⟨⟨by decide +kernel, by decide +kernel⟩, List.mem_of_getElem? (i := 600) (by decide +kernel), List.mem_of_getElem? (i := 807) (by decide +kernel), List.mem_of_getElem? (i := 808) (by decide +kernel)⟩
theorem lw_p29 : lw_okq (⟨"KnotLawModel", "layWays", "(II)V"⟩, 14) := ⟨⟨by decide +kernel, by decide +kernel⟩, List.mem_of_getElem? (i := 600) (by decide +kernel), List.mem_of_getElem? (i := 826) (by decide +kernel), List.mem_of_getElem? (i := 827) (by decide +kernel)⟩
theorem lw_p30 : lw_okq (⟨"KnotLawModel", "wrong", "(IIII)I"⟩, 14) := ⟨⟨by decide +kernel, by decide +kernel⟩, List.mem_of_getElem? (i := 600) (by decide +kernel), List.mem_of_getElem? (i := 868) (by decide +kernel), List.mem_of_getElem? (i := 869) (by decide +kernel)⟩
def lw_privs_2 : List (MethodName × Nat) := [(⟨"KnotLaw", "holdsFelt", "(IIII)I"⟩, 6), (⟨"KnotLawModel", "isClause", "(I)Z"⟩, 14), (⟨"KnotLawModel", "owedBy", "(I)I"⟩, 14), (⟨"KnotLawModel", "isAgreement", "()Z"⟩, 14), (⟨"KnotLawModel", "isClauseItem", "()Z"⟩, 14), (⟨"KnotLawModel", "peek", "()I"⟩, 14), (⟨"KnotLawModel", "isNumber", "()Z"⟩, 14), (⟨"KnotLawModel", "isDigit", "(II)Z"⟩, 14), (⟨"KnotLawModel", "isSign", "(I)Z"⟩, 14), (⟨"KnotLawModel", "boundOnes", "()I"⟩, 14), (⟨"KnotLawModel", "note", "()V"⟩, 14), (⟨"KnotLawModel", "begin", "()V"⟩, 14), (⟨"KnotLawModel", "needsOf", "(I)I"⟩, 14), (⟨"KnotLawModel", "layWays", "(II)V"⟩, 14), (⟨"KnotLawModel", "wrong", "(IIII)I"⟩, 14)]
theorem lw_r2 : ∀ q ∈ lw_privs_2, lw_okq q := List.forall_mem_cons.mpr ⟨lw_p16, List.forall_mem_cons.mpr ⟨lw_p17, List.forall_mem_cons.mpr ⟨lw_p18, List.forall_mem_cons.mpr ⟨lw_p19, List.forall_mem_cons.mpr ⟨lw_p20, List.forall_mem_cons.mpr ⟨lw_p21, List.forall_mem_cons.mpr ⟨lw_p22, List.forall_mem_cons.mpr ⟨lw_p23, List.forall_mem_cons.mpr ⟨lw_p24, List.forall_mem_cons.mpr ⟨lw_p25, List.forall_mem_cons.mpr ⟨lw_p26, List.forall_mem_cons.mpr ⟨lw_p27, List.forall_mem_cons.mpr ⟨lw_p28, List.forall_mem_cons.mpr ⟨lw_p29, List.forall_mem_cons.mpr ⟨lw_p30, fun _ h => absurd h List.not_mem_nil⟩⟩⟩⟩⟩⟩⟩⟩⟩⟩⟩⟩⟩⟩⟩
def lw_privs : List (MethodName × Nat) := lw_privs_1 ++ (lw_privs_2)
def lw_tbl : List Cond := k2_sels lw_privs ++ tables_1
theorem lw_privs_ok : ∀ q ∈ lw_privs, lw_okq q := by
  show ∀ q ∈ lw_privs_1 ++ (lw_privs_2), lw_okq q
  exact List.forall_mem_append.mpr ⟨lw_r1, lw_r2⟩
end
section
/-! A SMALL MACHINE: what the bytecode does, as a function over a list of cells. Place 0 of the list is the script, which nobody writes. -/
/-- a cell: an array (its element type, its length, what it holds), or an object (its class by number, its fields) -/
abbrev kn_C : Type := (FieldType × vp_A) ⊕ (Nat × List Value)
abbrev kn_H : Type := List kn_C
/-- a frame: pc, locals, operands -/
abbrev kn_F : Type := Nat × List (Nat × Value) × List Value
/-- an instruction, its length (of a switch alone), what its number means, where its words stand in the tables -/
abbrev kn_I : Type := Instr × Nat × List Nat × List Nat
/-- a method: its name, its bytes, how many locals, what it returns, how many frames and words its calls need, its instructions by sixteens of pcs -/
abbrev kn_M : Type := MethodName × ByteArray × Nat × Option FieldType × (Nat × Nat) × List (List (Option kn_I))
/-- a step: on to a frame (with so many cells and slots more), a call, or the end -/
abbrev kn_R : Type := (kn_F × kn_H × Nat × Nat) ⊕ (Nat × List Value × kn_F) ⊕ Option Value
def kn_at {α : Type} : List α → Nat → Option α
  | [], _ => none
  | x :: _, 0 => some x
  | _ :: r, n + 1 => kn_at r n
def kn_ld : List (Nat × Value) → Nat → Option Value
  | [], _ => none
  | q :: r, i => bif Nat.beq q.1 i then some q.2 else kn_ld r i
def kn_s1 (l : List (Nat × Value)) (i : Nat) (v : Value) : List (Nat × Value) := (i, v) :: l.filter (fun q => !(q.1 == i) && !(q.1 + 1 == i && q.2.category == 2))
def kn_s2 (l : List (Nat × Value)) (i : Nat) (v : Value) : List (Nat × Value) := (i, v) :: l.filter (fun q => !(q.1 == i) && (!(q.1 == i + 1) && !(q.1 + 1 == i && q.2.category == 2)))
def kn_code (M : kn_M) (pc : Nat) : Option kn_I := match kn_at M.2.2.2.2.2 (pc / 16) with
  | some ch => match kn_at ch (pc % 16) with
    | some e => e
    | none => none
  | none => none
def kn_to (pc : Nat) (l : List (Nat × Value)) (st : List Value) (h : kn_H) : Option kn_R := some (.inl ((pc, l, st), h, 0, 0))
def kn_ldi (pc : Nat) (l : List (Nat × Value)) (i : Nat) (st : List Value) (h : kn_H) : Option kn_R := match kn_ld l i with
  | some (.int x) => kn_to pc l (.int x :: st) h
  | _ => none
def kn_ldl (pc : Nat) (l : List (Nat × Value)) (i : Nat) (st : List Value) (h : kn_H) : Option kn_R := match kn_ld l i with
  | some (.long x) => kn_to pc l (.long x :: st) h
  | _ => none
def kn_lda (pc : Nat) (l : List (Nat × Value)) (i : Nat) (st : List Value) (h : kn_H) : Option kn_R := match kn_ld l i with
  | some (.ref x) => kn_to pc l (.ref x :: st) h
  | some .null => kn_to pc l (.null :: st) h
  | _ => none
def kn_sti (nL pc : Nat) (l : List (Nat × Value)) (i : Nat) (st : List Value) (h : kn_H) : Option kn_R := match st with
  | .int x :: r => bif Nat.ble (i + 1) nL then kn_to pc (kn_s1 l i (.int x)) r h else none
  | _ => none
def kn_stl (nL pc : Nat) (l : List (Nat × Value)) (i : Nat) (st : List Value) (h : kn_H) : Option kn_R := match st with
  | .long x :: r => bif Nat.ble (i + 2) nL then kn_to pc (kn_s2 l i (.long x)) r h else none
  | _ => none
def kn_sta (nL pc : Nat) (l : List (Nat × Value)) (i : Nat) (st : List Value) (h : kn_H) : Option kn_R := match st with
  | .ref x :: r => bif Nat.ble (i + 1) nL then kn_to pc (kn_s1 l i (.ref x)) r h else none
  | .null :: r => bif Nat.ble (i + 1) nL then kn_to pc (kn_s1 l i .null) r h else none
  | _ => none
def kn_inc (nL pc : Nat) (l : List (Nat × Value)) (i : Nat) (n : Int) (st : List Value) (h : kn_H) : Option kn_R := match kn_ld l i with
  | some (.int x) => bif Nat.ble (i + 1) nL then kn_to pc (kn_s1 l i (.int (x + Int32.ofInt n))) st h else none
  | _ => none
def kn_ii (f : Int32 → Int32 → Int32) (pc : Nat) (l : List (Nat × Value)) (st : List Value) (h : kn_H) : Option kn_R := match st with
  | .int y :: .int x :: r => kn_to pc l (.int (f x y) :: r) h
  | _ => none
def kn_id (f : Int32 → Int32 → Int32) (pc : Nat) (l : List (Nat × Value)) (st : List Value) (h : kn_H) : Option kn_R := match st with
  | .int y :: .int x :: r => if y = 0 then none else kn_to pc l (.int (f x y) :: r) h
  | _ => none
def kn_ll (f : Int64 → Int64 → Int64) (pc : Nat) (l : List (Nat × Value)) (st : List Value) (h : kn_H) : Option kn_R := match st with
  | .long y :: .long x :: r => kn_to pc l (.long (f x y) :: r) h
  | _ => none
def kn_ldv (f : Int64 → Int64 → Int64) (pc : Nat) (l : List (Nat × Value)) (st : List Value) (h : kn_H) : Option kn_R := match st with
  | .long y :: .long x :: r => if y = 0 then none else kn_to pc l (.long (f x y) :: r) h
  | _ => none
def kn_li (f : Int64 → Int32 → Int64) (pc : Nat) (l : List (Nat × Value)) (st : List Value) (h : kn_H) : Option kn_R := match st with
  | .int y :: .long x :: r => kn_to pc l (.long (f x y) :: r) h
  | _ => none
def kn_lc (pc : Nat) (l : List (Nat × Value)) (st : List Value) (h : kn_H) : Option kn_R := match st with
  | .long y :: .long x :: r => kn_to pc l (.int (lg_cmp x y) :: r) h
  | _ => none
def kn_1i (f : Int32 → Value) (pc : Nat) (l : List (Nat × Value)) (st : List Value) (h : kn_H) : Option kn_R := match st with
  | .int x :: r => kn_to pc l (f x :: r) h
  | _ => none
def kn_1l (f : Int64 → Value) (pc : Nat) (l : List (Nat × Value)) (st : List Value) (h : kn_H) : Option kn_R := match st with
  | .long x :: r => kn_to pc l (f x :: r) h
  | _ => none
def kn_c1 (v : Value) : Bool := Nat.beq v.category 1
def kn_dup (pc : Nat) (l : List (Nat × Value)) (st : List Value) (h : kn_H) : Option kn_R := match st with
  | a :: r => bif kn_c1 a then kn_to pc l (a :: a :: r) h else none
  | _ => none
def kn_pop (pc : Nat) (l : List (Nat × Value)) (st : List Value) (h : kn_H) : Option kn_R := match st with
  | a :: r => bif kn_c1 a then kn_to pc l r h else none
  | _ => none
def kn_dx1 (pc : Nat) (l : List (Nat × Value)) (st : List Value) (h : kn_H) : Option kn_R := match st with
  | a :: b :: r => bif kn_c1 a && kn_c1 b then kn_to pc l (a :: b :: a :: r) h else none
  | _ => none
def kn_dx2 (pc : Nat) (l : List (Nat × Value)) (st : List Value) (h : kn_H) : Option kn_R := match st with
  | a :: b :: c :: r => bif kn_c1 a && (kn_c1 b && kn_c1 c) then kn_to pc l (a :: b :: c :: a :: r) h else none
  | _ => none
def kn_d2 (pc : Nat) (l : List (Nat × Value)) (st : List Value) (h : kn_H) : Option kn_R := match st with
  | a :: b :: r => bif kn_c1 a && kn_c1 b then kn_to pc l (a :: b :: a :: b :: r) h else none
  | _ => none
/-- a branch by what two ints are to each other -/
def kn_br (c : ClassFile.Cond) (x y : Int32) (t n : Nat) (l : List (Nat × Value)) (st : List Value) (h : kn_H) : Option kn_R := match c with
  | .eq => if x = y then kn_to t l st h else kn_to n l st h
  | .ne => if x = y then kn_to n l st h else kn_to t l st h
  | .lt => if x < y then kn_to t l st h else kn_to n l st h
  | .ge => if y ≤ x then kn_to t l st h else kn_to n l st h
  | .gt => if y < x then kn_to t l st h else kn_to n l st h
  | .le => if x ≤ y then kn_to t l st h else kn_to n l st h
def kn_if (c : ClassFile.Cond) (t n : Nat) (l : List (Nat × Value)) (st : List Value) (h : kn_H) : Option kn_R := match st with
  | .int x :: r => kn_br c x 0 t n l r h
  | _ => none
def kn_cmp (c : ClassFile.Cond) (t n : Nat) (l : List (Nat × Value)) (st : List Value) (h : kn_H) : Option kn_R := match st with
  | .int y :: .int x :: r => kn_br c x y t n l r h
  | _ => none
def kn_nul (t n : Nat) (l : List (Nat × Value)) (st : List Value) (h : kn_H) : Option kn_R := match st with
  | .ref _ :: r => kn_to n l r h
  | .null :: r => kn_to t l r h
  | _ => none
def kn_tab (lo hi : Int) (aux : List Nat) (l : List (Nat × Value)) (st : List Value) (h : kn_H) : Option kn_R := match st, aux with
  | .int x :: r, d :: ts => if x.toInt < lo ∨ hi < x.toInt then kn_to d l r h else match kn_at ts (x.toInt - lo).toNat with
    | some t => kn_to t l r h
    | none => none
  | _, _ => none
/-- fields: aux = class, place, code of the type -/
def kn_get (pc : Nat) (aux : List Nat) (l : List (Nat × Value)) (st : List Value) (h : kn_H) : Option kn_R := match st, aux with
  | .ref a :: r, ci :: k :: _ => match kn_at h a with
    | some (.inr (c, fs)) => bif Nat.beq c ci then (match kn_at fs k with
      | some v => kn_to pc l (v :: r) h
      | none => none) else none
    | _ => none
  | _, _ => none
def kn_fit (tc : Nat) (v : Value) : Bool := match v with
  | .int x => match tc with
    | 0 => true
    | 2 => x == 0 || x == 1
    | _ => false
  | .long _ => Nat.beq tc 1
  | .null => Nat.beq tc 3
  | .ref _ => Nat.beq tc 3
  | _ => false
def kn_put (pc : Nat) (aux : List Nat) (l : List (Nat × Value)) (st : List Value) (h : kn_H) : Option kn_R := match st, aux with
  | v :: .ref (a + 1) :: r, ci :: k :: tc :: _ => match kn_at h (a + 1) with
    | some (.inr (c, fs)) => bif Nat.beq c ci && (Nat.ble (k + 1) fs.length && kn_fit tc v) then kn_to pc l r (h.set (a + 1) (.inr (c, fs.set k v))) else none
    | _ => none
  | _, _ => none
/-- the code of an element type -/
def kn_tc : FieldType → Nat
  | .int => 0
  | .long => 1
  | .boolean => 2
  | .object _ => 3
  | .array _ => 3
  | .byte => 4
  | .short => 5
  | .char => 6
  | _ => 9
def kn_ald (tc : Nat) (pc : Nat) (l : List (Nat × Value)) (st : List Value) (h : kn_H) : Option kn_R := match st with
  | .int i :: .ref a :: r => match kn_at h a with
    | some (.inl (ty, n, .inl f)) => bif Nat.beq (kn_tc ty) tc then (if i < 0 ∨ n ≤ i.toNatClampNeg then none else kn_to pc l (.int (f i.toNatClampNeg) :: r) h) else none
    | _ => none
  | _ => none
def kn_lald (pc : Nat) (l : List (Nat × Value)) (st : List Value) (h : kn_H) : Option kn_R := match st with
  | .int i :: .ref (a + 1) :: r => match kn_at h (a + 1) with
    | some (.inl (ty, n, .inr (.inl f))) => bif Nat.beq (kn_tc ty) 1 then (if i < 0 ∨ n ≤ i.toNatClampNeg then none else kn_to pc l (.long (f i.toNatClampNeg) :: r) h) else none
    | _ => none
  | _ => none
def kn_ast (pc : Nat) (l : List (Nat × Value)) (st : List Value) (h : kn_H) : Option kn_R := match st with
  | .int x :: .int i :: .ref (a + 1) :: r => match kn_at h (a + 1) with
    | some (.inl (ty, n, .inl f)) => bif Nat.beq (kn_tc ty) 0 then (if i < 0 ∨ n ≤ i.toNatClampNeg then none else kn_to pc l r (h.set (a + 1) (.inl (ty, n, .inl (upd f i.toNatClampNeg x))))) else none
    | _ => none
  | _ => none
def kn_bast (pc : Nat) (l : List (Nat × Value)) (st : List Value) (h : kn_H) : Option kn_R := match st with
  | .int x :: .int i :: .ref (a + 1) :: r => match kn_at h (a + 1) with
    | some (.inl (ty, n, .inl f)) => bif Nat.beq (kn_tc ty) 2 then (if i < 0 ∨ n ≤ i.toNatClampNeg then none else kn_to pc l r (h.set (a + 1) (.inl (ty, n, .inl (upd f i.toNatClampNeg (vp_nar .boolean x)))))) else none
    | _ => none
  | _ => none
def kn_last (pc : Nat) (l : List (Nat × Value)) (st : List Value) (h : kn_H) : Option kn_R := match st with
  | .long x :: .int i :: .ref (a + 1) :: r => match kn_at h (a + 1) with
    | some (.inl (ty, n, .inr (.inl f))) => bif Nat.beq (kn_tc ty) 1 then (if i < 0 ∨ n ≤ i.toNatClampNeg then none else kn_to pc l r (h.set (a + 1) (.inl (ty, n, .inr (.inl (vp_updL f i.toNatClampNeg x)))))) else none
    | _ => none
  | _ => none
def kn_len (pc : Nat) (l : List (Nat × Value)) (st : List Value) (h : kn_H) : Option kn_R := match st with
  | .ref a :: r => match kn_at h a with
    | some (.inl (ty, n, _)) => bif Nat.ble (kn_tc ty) 2 then kn_to pc l (.int (Int32.ofNat n) :: r) h else none
    | _ => none
  | _ => none
/-- the default value of a type's code -/
def kn_dv (tc : Nat) : Value := match tc with
  | 1 => .long 0
  | 3 => .null
  | _ => .int 0
def kn_new (pc : Nat) (aux : List Nat) (l : List (Nat × Value)) (st : List Value) (h : kn_H) : Option kn_R := match aux with
  | ci :: N :: tcs => some (.inl ((pc, l, .ref h.length :: st), h ++ [.inr (ci, tcs.map kn_dv)], 1, N))
  | _ => none
def kn_newa (t : ArrayType) (pc : Nat) (l : List (Nat × Value)) (st : List Value) (h : kn_H) : Option kn_R := match st with
  | .int n :: r => if n < 0 ∨ 1000000 < n.toNatClampNeg then none else match t with
    | .int => some (.inl ((pc, l, .ref h.length :: r), h ++ [.inl (.int, n.toNatClampNeg, .inl (fun _ => 0))], 1, n.toNatClampNeg))
    | .boolean => some (.inl ((pc, l, .ref h.length :: r), h ++ [.inl (.boolean, n.toNatClampNeg, .inl (fun _ => 0))], 1, n.toNatClampNeg))
    | .long => some (.inl ((pc, l, .ref h.length :: r), h ++ [.inl (.long, n.toNatClampNeg, .inr (.inl (fun _ => 0)))], 1, n.toNatClampNeg))
    | _ => none
  | _ => none
def kn_cat (st : List Value) : Nat := (st.map fun v => v.category).sum
def kn_copy (pc : Nat) (l : List (Nat × Value)) (st : List Value) (h : kn_H) : Option kn_R := match st with
  | .int n :: .int dp :: .ref (a + 1) :: .int sp :: .ref (b + 1) :: r => match kn_at h (b + 1), kn_at h (a + 1) with
    | some (.inl (t0, n0, .inl f)), some (.inl (t1, n1, .inl g)) => bif Nat.beq (kn_tc t0) 0 && (Nat.beq (kn_tc t1) 0 && Nat.ble (kn_cat r) 8) then
        (if sp < 0 ∨ dp < 0 ∨ n < 0 ∨ n0 < sp.toNatClampNeg + n.toNatClampNeg ∨ n1 < dp.toNatClampNeg + n.toNatClampNeg then none
         else kn_to pc l r (h.set (a + 1) (.inl (t1, n1, .inl (va_cpy f g sp.toNatClampNeg dp.toNatClampNeg n.toNatClampNeg))))) else none
    | some (.inl (t0, n0, .inr (.inl f))), some (.inl (t1, n1, .inr (.inl g))) => bif Nat.beq (kn_tc t0) 1 && (Nat.beq (kn_tc t1) 1 && Nat.ble (kn_cat r) 8) then
        (if sp < 0 ∨ dp < 0 ∨ n < 0 ∨ n0 < sp.toNatClampNeg + n.toNatClampNeg ∨ n1 < dp.toNatClampNeg + n.toNatClampNeg then none
         else kn_to pc l r (h.set (a + 1) (.inl (t1, n1, .inr (.inl (va_cpy f g sp.toNatClampNeg dp.toNatClampNeg n.toNatClampNeg)))))) else none
    | _, _ => none
  | _ => none
/-- a call: aux = which method, how many arguments (its receiver not counted), its class, its locals -/
def kn_cv (pc : Nat) (aux : List Nat) (l : List (Nat × Value)) (st : List Value) (h : kn_H) : Option kn_R := match aux with
  | j :: n :: ci :: nL :: _ => match st.drop n with
    | .ref a :: r => match kn_at h a with
      | some (.inr (c, _)) => bif Nat.beq c ci && (Nat.beq (st.take n).length n && (Nat.ble (kn_cat r) 8 && Nat.ble (lg_sl (.ref a :: (st.take n).reverse)).length nL)) then some (.inr (.inl (j, .ref a :: (st.take n).reverse, (pc, l, r)))) else none
      | _ => none
    | _ => none
  | _ => none
def kn_cs (pc : Nat) (aux : List Nat) (l : List (Nat × Value)) (st : List Value) : Option kn_R := match aux with
  | j :: n :: _ :: nL :: _ => bif Nat.beq (st.take n).length n && (Nat.ble (kn_cat (st.drop n)) 8 && Nat.ble (lg_sl (st.take n).reverse).length nL) then some (.inr (.inl (j, (st.take n).reverse, (pc, l, st.drop n)))) else none
  | _ => none
/-- invokespecial: aux = [] is Object.<init> -/
def kn_ci (pc : Nat) (aux : List Nat) (l : List (Nat × Value)) (st : List Value) (h : kn_H) : Option kn_R := match aux with
  | [] => match st with
    | .ref _ :: r => bif Nat.ble (kn_cat r) 8 then kn_to pc l r h else none
    | _ => none
  | _ => kn_cv pc aux l st h
/-- invokestatic: aux = [] is System.arraycopy -/
def kn_cst (pc : Nat) (aux : List Nat) (l : List (Nat × Value)) (st : List Value) (h : kn_H) : Option kn_R := match aux with
  | [] => kn_copy pc l st h
  | _ => kn_cs pc aux l st
def kn_ri (ret : Option FieldType) (st : List Value) : Option kn_R := match ret, st with
  | some .int, [.int v] => some (.inr (.inr (some (.int v))))
  | some .boolean, [.int v] => bif v == 0 || v == 1 then some (.inr (.inr (some (.int v)))) else none
  | _, _ => none
def kn_rl (ret : Option FieldType) (st : List Value) : Option kn_R := match ret, st with
  | some .long, [.long v] => some (.inr (.inr (some (.long v))))
  | _, _ => none
def kn_rv (ret : Option FieldType) (st : List Value) : Option kn_R := match ret, st with
  | none, [] => some (.inr (.inr none))
  | _, _ => none
def kn_hd (aux : List Nat) : Nat := match aux with
  | t :: _ => t
  | [] => 0
def kn_step (nL : Nat) (ret : Option FieldType) (i : kn_I) (pc : Nat) (l : List (Nat × Value)) (st : List Value) (h : kn_H) : Option kn_R := match i.1 with
  | .iconst n => kn_to (pc + 1) l (.int (Int32.ofInt n) :: st) h
  | .bipush n => kn_to (pc + 2) l (.int (Int8.ofInt n).toInt32 :: st) h
  | .sipush n => kn_to (pc + 3) l (.int (Int16.ofInt n).toInt32 :: st) h
  | .lconst n => kn_to (pc + 1) l (.long (Int64.ofNat (n : Nat)) :: st) h
  | .ldc _ => kn_to (pc + 2) l (.int (Int32.ofNat (kn_hd i.2.2.1)) :: st) h
  | .ldc_w _ => kn_to (pc + 3) l (.int (Int32.ofNat (kn_hd i.2.2.1)) :: st) h
  | .ldc2_w _ => kn_to (pc + 3) l (.long (Int64.ofNat (kn_hd i.2.2.1)) :: st) h
  | .aconst_null => kn_to (pc + 1) l (.null :: st) h
  | .iload_n k => kn_ldi (pc + 1) l k st h
  | .iload k => kn_ldi (pc + 2) l k st h
  | .lload_n k => kn_ldl (pc + 1) l k st h
  | .lload k => kn_ldl (pc + 2) l k st h
  | .aload_n k => kn_lda (pc + 1) l k st h
  | .aload k => kn_lda (pc + 2) l k st h
  | .istore_n k => kn_sti nL (pc + 1) l k st h
  | .istore k => kn_sti nL (pc + 2) l k st h
  | .lstore_n k => kn_stl nL (pc + 1) l k st h
  | .lstore k => kn_stl nL (pc + 2) l k st h
  | .astore_n k => kn_sta nL (pc + 1) l k st h
  | .astore k => kn_sta nL (pc + 2) l k st h
  | .iinc k n => kn_inc nL (pc + 3) l k n st h
  | .iadd => kn_ii (fun x y => x + y) (pc + 1) l st h
  | .isub => kn_ii (fun x y => x - y) (pc + 1) l st h
  | .imul => kn_ii (fun x y => x * y) (pc + 1) l st h
  | .iand => kn_ii (fun x y => x &&& y) (pc + 1) l st h
  | .ior => kn_ii (fun x y => x ||| y) (pc + 1) l st h
  | .ixor => kn_ii (fun x y => x ^^^ y) (pc + 1) l st h
  | .ishl => kn_ii (fun x y => x <<< (y &&& 31)) (pc + 1) l st h
  | .ishr => kn_ii (fun x y => x >>> (y &&& 31)) (pc + 1) l st h
  | .iushr => kn_ii (fun x y => (x.toUInt32 >>> (y.toUInt32 &&& Int32.toUInt32 31)).toInt32) (pc + 1) l st h
  | .idiv => kn_id (fun x y => x / y) (pc + 1) l st h
  | .irem => kn_id (fun x y => x - x / y * y) (pc + 1) l st h
  | .ineg => kn_1i (fun x => .int (-x)) (pc + 1) l st h
  | .i2l => kn_1i (fun x => .long x.toInt64) (pc + 1) l st h
  | .i2b => kn_1i (fun x => .int x.toInt8.toInt32) (pc + 1) l st h
  | .i2s => kn_1i (fun x => .int x.toInt16.toInt32) (pc + 1) l st h
  | .i2c => kn_1i (fun x => .int (x.toUInt32 % 65536).toInt32) (pc + 1) l st h
  | .l2i => kn_1l (fun x => .int x.toInt32) (pc + 1) l st h
  | .lneg => kn_1l (fun x => .long (-x)) (pc + 1) l st h
  | .ladd => kn_ll (fun x y => x + y) (pc + 1) l st h
  | .lsub => kn_ll (fun x y => x - y) (pc + 1) l st h
  | .lmul => kn_ll (fun x y => x * y) (pc + 1) l st h
  | .land => kn_ll (fun x y => x &&& y) (pc + 1) l st h
  | .lor => kn_ll (fun x y => x ||| y) (pc + 1) l st h
  | .lxor => kn_ll (fun x y => x ^^^ y) (pc + 1) l st h
  | .ldiv => kn_ldv (fun x y => x / y) (pc + 1) l st h
  | .lrem => kn_ldv (fun x y => x - x / y * y) (pc + 1) l st h
  | .lshl => kn_li (fun x y => x <<< (y.toInt64 &&& 63)) (pc + 1) l st h
  | .lshr => kn_li (fun x y => x >>> (y.toInt64 &&& 63)) (pc + 1) l st h
  | .lushr => kn_li (fun x y => (x.toUInt64 >>> (y.toInt64.toUInt64 &&& Int64.toUInt64 63)).toInt64) (pc + 1) l st h
  | .lcmp => kn_lc (pc + 1) l st h
  | .dup => kn_dup (pc + 1) l st h
  | .pop => kn_pop (pc + 1) l st h
  | .dup_x1 => kn_dx1 (pc + 1) l st h
  | .dup_x2 => kn_dx2 (pc + 1) l st h
  | .dup2 => kn_d2 (pc + 1) l st h
  | .ifCond c _ => kn_if c (kn_hd i.2.2.1) (pc + 3) l st h
  | .if_icmp c _ => kn_cmp c (kn_hd i.2.2.1) (pc + 3) l st h
  | .ifnull _ => kn_nul (kn_hd i.2.2.1) (pc + 3) l st h
  | .ifnonnull _ => kn_nul (pc + 3) (kn_hd i.2.2.1) l st h
  | .goto _ => kn_to (kn_hd i.2.2.1) l st h
  | .tableswitch _ lo hi _ => kn_tab lo hi i.2.2.1 l st h
  | .getfield _ => kn_get (pc + 3) i.2.2.1 l st h
  | .putfield _ => kn_put (pc + 3) i.2.2.1 l st h
  | .iaload => kn_ald 0 (pc + 1) l st h
  | .baload => kn_ald 2 (pc + 1) l st h
  | .laload => kn_lald (pc + 1) l st h
  | .iastore => kn_ast (pc + 1) l st h
  | .bastore => kn_bast (pc + 1) l st h
  | .lastore => kn_last (pc + 1) l st h
  | .arraylength => kn_len (pc + 1) l st h
  | .new _ => kn_new (pc + 3) i.2.2.1 l st h
  | .newarray t => kn_newa t (pc + 2) l st h
  | .invokevirtual _ => kn_cv (pc + 3) i.2.2.1 l st h
  | .invokespecial _ => kn_ci (pc + 3) i.2.2.1 l st h
  | .invokestatic _ => kn_cst (pc + 3) i.2.2.1 l st h
  | .ireturn => kn_ri ret st
  | .lreturn => kn_rl ret st
  | .return_ => kn_rv ret st
  | _ => none
/-- the run: n steps at most; what it returns, the cells then, how many cells and slots it made -/
def kn_run (T : List kn_M) : Nat → kn_M → kn_F → kn_H → Option (Option Value × kn_H × Nat × Nat)
  | 0, _, _, _ => none
  | n + 1, M, f, h => match kn_code M f.1 with
    | none => none
    | some i => match kn_step M.2.2.1 M.2.2.2.1 i f.1 f.2.1 f.2.2 h with
      | none => none
      | some (.inl (f1, h1, k, z)) => (kn_run T n M f1 h1).map (fun r => (r.1, r.2.1, k + r.2.2.1, z + r.2.2.2))
      | some (.inr (.inr v)) => some (v, h, 0, 0)
      | some (.inr (.inl (j, as, f1))) => match kn_at T j with
        | none => none
        | some M1 => match kn_run T n M1 (0, lv_args 0 as, []) h with
          | none => none
          | some (v, h1, k, z) => (kn_run T n M (f1.1, f1.2.1, v.toList ++ f1.2.2) h1).map (fun r => (r.1, r.2.1, k + r.2.2.1, z + r.2.2.2))
end
section
/-! THE SMALL MACHINE, REASONED ABOUT: what a run from a frame comes to (nothing is made on the way) -/
theorem kn_run_more (T : List kn_M) : ∀ (n : Nat) (M : kn_M) (f : kn_F) (h : kn_H) (r : Option Value × kn_H × Nat × Nat), kn_run T n M f h = some r → ∀ m, n ≤ m → kn_run T m M f h = some r := by
  intro n
  induction n with
  | zero => intro M f h r hr; cases hr
  | succ n ih =>
    intro M f h r hr m hm
    cases m with
    | zero => omega
    | succ m =>
      have hm' : n ≤ m := by omega
      rw [kn_run] at hr ⊢
      cases hc : kn_code M f.1 with
      | none => rw [hc] at hr; cases hr
      | some i =>
        rw [hc] at hr
        dsimp only at hr ⊢
        cases hs : kn_step M.2.2.1 M.2.2.2.1 i f.1 f.2.1 f.2.2 h with
        | none => rw [hs] at hr; cases hr
        | some q =>
          rw [hs] at hr
          rcases q with ⟨f1, h1, k, z⟩ | ⟨j, as, f1⟩ | v
          · dsimp only at hr ⊢
            cases h2 : kn_run T n M f1 h1 with
            | none => rw [h2] at hr; cases hr
            | some r1 => rw [h2] at hr; rw [ih M f1 h1 r1 h2 m hm']; exact hr
          · dsimp only at hr ⊢
            cases hj : kn_at T j with
            | none => rw [hj] at hr; cases hr
            | some M1 =>
              rw [hj] at hr
              dsimp only at hr ⊢
              cases h2 : kn_run T n M1 (0, lv_args 0 as, []) h with
              | none => rw [h2] at hr; cases hr
              | some r1 =>
                rw [h2] at hr
                rw [ih M1 _ h r1 h2 m hm']
                obtain ⟨v, h1, k, z⟩ := r1
                dsimp only at hr ⊢
                cases h3 : kn_run T n M (f1.1, f1.2.1, v.toList ++ f1.2.2) h1 with
                | none => rw [h3] at hr; cases hr
                | some r2 => rw [h3] at hr; rw [ih M _ h1 r2 h3 m hm']; exact hr
          · exact hr
/-- from frame f and cells h on, the method ends, and Q holds of its answer and the cells then; no cell is made -/
def kn_Post (T : List kn_M) (M : kn_M) (f : kn_F) (h : kn_H) (Q : Option Value → kn_H → Prop) : Prop := ∃ n v h1, kn_run T n M f h = some (v, h1, 0, 0) ∧ Q v h1
/-- n steps within the method -/
def kn_goes (M : kn_M) : Nat → kn_F → kn_H → Option (kn_F × kn_H)
  | 0, f, h => some (f, h)
  | n + 1, f, h => match kn_code M f.1 with
    | none => none
    | some i => match kn_step M.2.2.1 M.2.2.2.1 i f.1 f.2.1 f.2.2 h with
      | some (.inl (f1, h1, 0, 0)) => kn_goes M n f1 h1
      | _ => none
section KPO
variable {T : List kn_M} {M : kn_M} {h : kn_H} {Q : Option Value → kn_H → Prop} {pc : Nat} {l : List (Nat × Value)} {st : List Value}
theorem kn_P_go {f f1 : kn_F} {h1 : kn_H} {i : kn_I} (hc : kn_code M f.1 = some i) (hs : kn_step M.2.2.1 M.2.2.2.1 i f.1 f.2.1 f.2.2 h = some (.inl (f1, h1, 0, 0))) (k : kn_Post T M f1 h1 Q) : kn_Post T M f h Q := by
  obtain ⟨n, v, h2, hr, hq⟩ := k
  refine ⟨n + 1, v, h2, ?_, hq⟩
  rw [kn_run, hc]
  dsimp only
  rw [hs]
  dsimp only
  rw [hr]
  rfl
theorem kn_P_steps (n : Nat) : ∀ {f f1 : kn_F} {h h1 : kn_H}, kn_goes M n f h = some (f1, h1) → kn_Post T M f1 h1 Q → kn_Post T M f h Q := by
  induction n with
  | zero =>
    intro f f1 h h1 hg k
    cases hg
    exact k
  | succ n ih =>
    intro f f1 h h1 hg k
    rw [kn_goes] at hg
    cases hc : kn_code M f.1 with
    | none => rw [hc] at hg; cases hg
    | some i =>
      rw [hc] at hg
      dsimp only at hg
      split at hg
      · rename_i f2 h2 hs
        exact kn_P_go hc hs (ih hg k)
      · cases hg
theorem kn_P_call {f f1 : kn_F} {i : kn_I} {j : Nat} {as : List Value} {M1 : kn_M} {Q1 : Option Value → kn_H → Prop} (hc : kn_code M f.1 = some i) (hs : kn_step M.2.2.1 M.2.2.2.1 i f.1 f.2.1 f.2.2 h = some (.inr (.inl (j, as, f1)))) (hj : kn_at T j = some M1) (hP : kn_Post T M1 (0, lv_args 0 as, []) h Q1)
    (k : ∀ v h1, Q1 v h1 → kn_Post T M (f1.1, f1.2.1, v.toList ++ f1.2.2) h1 Q) : kn_Post T M f h Q := by
  obtain ⟨n1, v1, h1, hr1, hq1⟩ := hP
  obtain ⟨n2, v2, h2, hr2, hq2⟩ := k v1 h1 hq1
  refine ⟨n1 + n2 + 1, v2, h2, ?_, hq2⟩
  rw [kn_run, hc]
  dsimp only
  rw [hs]
  dsimp only
  rw [hj]
  dsimp only
  rw [kn_run_more T n1 M1 _ h _ hr1 (n1 + n2) (by omega)]
  dsimp only
  rw [kn_run_more T n2 M _ h1 _ hr2 (n1 + n2) (by omega)]
  rfl
theorem kn_P_ret {f : kn_F} {i : kn_I} {v : Option Value} (hc : kn_code M f.1 = some i) (hs : kn_step M.2.2.1 M.2.2.2.1 i f.1 f.2.1 f.2.2 h = some (.inr (.inr v))) (hq : Q v h) : kn_Post T M f h Q := by
  refine ⟨1, v, h, ?_, hq⟩
  rw [kn_run, hc]
  dsimp only
  rw [hs]
/-- a branch -/
theorem kn_P_if {f : kn_F} {i : kn_I} {c : Prop} {dc : Decidable c} {t n : Nat} {l1 : List (Nat × Value)} {s1 : List Value} (hc : kn_code M f.1 = some i) (hs : kn_step M.2.2.1 M.2.2.2.1 i f.1 f.2.1 f.2.2 h = @ite _ c dc (kn_to t l1 s1 h) (kn_to n l1 s1 h)) (kt : c → kn_Post T M (t, l1, s1) h Q) (kf : ¬ c → kn_Post T M (n, l1, s1) h Q) : kn_Post T M f h Q := by
  by_cases hcc : c
  · refine kn_P_go hc (f1 := (t, l1, s1)) (h1 := h) ?_ (kt hcc)
    rw [hs, if_pos hcc]
    rfl
  · refine kn_P_go hc (f1 := (n, l1, s1)) (h1 := h) ?_ (kf hcc)
    rw [hs, if_neg hcc]
    rfl
/-- an index, a divisor -/
theorem kn_P_ok {f : kn_F} {i : kn_I} {c : Prop} {dc : Decidable c} {t : Nat} {l1 : List (Nat × Value)} {s1 : List Value} {h1 : kn_H} (hc : kn_code M f.1 = some i) (hs : kn_step M.2.2.1 M.2.2.2.1 i f.1 f.2.1 f.2.2 h = @ite _ c dc none (kn_to t l1 s1 h1)) (hn : ¬ c) (k : kn_Post T M (t, l1, s1) h1 Q) : kn_Post T M f h Q := by
  refine kn_P_go hc (f1 := (t, l1, s1)) (h1 := h1) ?_ k
  rw [hs, if_neg hn]
  rfl
theorem kn_P_mono {f : kn_F} {Q1 : Option Value → kn_H → Prop} (hP : kn_Post T M f h Q1) (hq : ∀ v h1, Q1 v h1 → Q v h1) : kn_Post T M f h Q := by
  obtain ⟨n, v, h1, hr, h2⟩ := hP
  exact ⟨n, v, h1, hr, hq v h1 h2⟩
end KPO
end
section
/-! The machine's steps are the JVM's: what its values and cells are there -/
def kn_ad (b base : Nat) : Nat → Nat
  | 0 => b
  | i + 1 => base + i
def kn_v (b base : Nat) : Value → Value
  | .ref a => .ref (kn_ad b base a)
  | v => v
theorem kn_v_cat (b base : Nat) (v : Value) : (kn_v b base v).category = v.category := by cases v <;> rfl
def kn_vs (b base : Nat) (l : List (Nat × Value)) : List (Nat × Value) := l.map (fun q => (q.1, kn_v b base q.2))
def kn_e (cA : FieldType → ClassId) (b base : Nat) : kn_C → va_E
  | .inl (ty, x) => .inl (cA ty, x)
  | .inr (ci, fs) => .inr (ci, fs.map (kn_v b base))
def kn_w (E : kn_C → va_E) : Nat → kn_H → va_W
  | _, [] => []
  | a, x :: r => (a, E x) :: kn_w E (a + 1) r
theorem kn_at_eq {α : Type} : ∀ (l : List α) (i : Nat), kn_at l i = l[i]?
  | [], i => by simp [kn_at]
  | x :: r, 0 => by simp [kn_at]
  | x :: r, i + 1 => by rw [kn_at, kn_at_eq r i]; simp
theorem kn_w_at (E : kn_C → va_E) : ∀ (r : kn_H) (a i : Nat), (kn_w E a r)[i]? = (kn_at r i).map (fun x => (a + i, E x))
  | [], a, i => by simp [kn_w, kn_at]
  | x :: r, a, 0 => by simp [kn_w, kn_at]
  | x :: r, a, i + 1 => by
    rw [kn_w, List.getElem?_cons_succ, kn_w_at E r (a + 1) i, kn_at]
    simp [Nat.add_assoc, Nat.add_comm 1 i]
theorem kn_w_len (E : kn_C → va_E) : ∀ (r : kn_H) (a : Nat), (kn_w E a r).length = r.length
  | [], _ => rfl
  | _ :: r, a => by rw [kn_w, List.length_cons, kn_w_len E r (a + 1), List.length_cons]
theorem kn_w_set (E : kn_C → va_E) (x : kn_C) : ∀ (r : kn_H) (a i : Nat), kn_w E a (r.set i x) = (kn_w E a r).set i (a + i, E x)
  | [], _, _ => rfl
  | _ :: r, a, 0 => by simp [kn_w]
  | y :: r, a, i + 1 => by
    rw [List.set_cons_succ, kn_w, kn_w, List.set_cons_succ, kn_w_set E x r (a + 1) i, Nat.add_assoc, Nat.add_comm 1 i]
theorem kn_w_app (E : kn_C → va_E) (x : kn_C) : ∀ (r : kn_H) (a : Nat), kn_w E a (r ++ [x]) = kn_w E a r ++ [(a + r.length, E x)]
  | [], _ => rfl
  | y :: r, a => by
    rw [List.cons_append, kn_w, kn_w_app E x r (a + 1), kn_w, List.cons_append, List.length_cons, Nat.add_assoc, Nat.add_comm 1 r.length]
theorem kn_w_D (E : kn_C → va_E) (r : kn_H) (a : Nat) : va_D (fun q => a ≤ q) (kn_w E a r) := by
  refine ⟨fun i j x y hi hj hxy => ?_, fun k q hk => ?_⟩
  · rw [kn_w_at] at hi hj
    cases h1 : kn_at r i with
    | none => rw [h1] at hi; cases hi
    | some u =>
      cases h2 : kn_at r j with
      | none => rw [h2] at hj; cases hj
      | some w =>
        rw [h1] at hi; rw [h2] at hj
        cases hi; cases hj
        simp only at hxy
        omega
  · rw [kn_w_at] at hk
    cases h1 : kn_at r k with
    | none => rw [h1] at hk; cases hk
    | some u =>
      rw [h1] at hk
      cases hk
      exact Nat.le_add_right _ _
theorem kn_w_get {E : kn_C → va_E} {r : kn_H} {a i : Nat} {x : kn_C} (h : kn_at r i = some x) : (kn_w E a r)[i]? = some (a + i, E x) := by rw [kn_w_at, h]; rfl
theorem kn_ld_mem : ∀ {l : List (Nat × Value)} {i : Nat} {v : Value}, kn_ld l i = some v → (i, v) ∈ l
  | [], _, _, h => by cases h
  | q :: r, i, v, h => by
    rw [kn_ld] at h
    cases hb : Nat.beq q.1 i with
    | true =>
      rw [hb] at h
      have h1 : q.2 = v := Option.some.inj h
      have h2 : q.1 = i := Nat.eq_of_beq_eq_true hb
      rw [← h1, ← h2]
      exact List.mem_cons_self
    | false =>
      rw [hb] at h
      exact List.mem_cons_of_mem _ (kn_ld_mem h)
theorem kn_ld_at {ls : Array Slot} {nL b base i : Nat} {l : List (Nat × Value)} {v : Value} (hl : lv_has ls nL (kn_vs b base l)) (h : kn_ld l i = some v) : ls[i]? = some (.val (kn_v b base v)) := by
  have hm : (i, kn_v b base v) ∈ kn_vs b base l := List.mem_map.mpr ⟨(i, v), kn_ld_mem h, rfl⟩
  exact hl.2.2 _ hm
theorem kn_vs_s1 (b base : Nat) (l : List (Nat × Value)) (i : Nat) (v : Value) : kn_vs b base (kn_s1 l i v) = (i, kn_v b base v) :: (kn_vs b base l).filter (fun q => !(q.1 == i) && !(q.1 + 1 == i && q.2.category == 2)) := by
  simp only [kn_vs, kn_s1, List.map_cons, List.filter_map]
  congr 2
  apply List.filter_congr
  intro q _
  simp [kn_v_cat]
theorem kn_vs_s2 (b base : Nat) (l : List (Nat × Value)) (i : Nat) (v : Value) : kn_vs b base (kn_s2 l i v) = (i, kn_v b base v) :: (kn_vs b base l).filter (fun q => !(q.1 == i) && (!(q.1 == i + 1) && !(q.1 + 1 == i && q.2.category == 2))) := by
  simp only [kn_vs, kn_s2, List.map_cons, List.filter_map]
  congr 2
  apply List.filter_congr
  intro q _
  simp [kn_v_cat]
theorem kn_vs_args (b base : Nat) : ∀ (vs : List Value) (i : Nat), kn_vs b base (lv_args i vs) = lv_args i (vs.map (kn_v b base))
  | [], _ => rfl
  | v :: vs, i => by
    rw [List.map_cons, lv_args, lv_args, kn_v_cat, ← kn_vs_args b base vs]
    rfl
theorem kn_sl_len (b base : Nat) : ∀ (vs : List Value), (lg_sl (vs.map (kn_v b base))).length = (lg_sl vs).length
  | [] => rfl
  | v :: vs => by
    have ih := kn_sl_len b base vs
    simp only [lg_sl, List.map_cons, List.flatMap_cons, List.length_append, kn_v_cat] at ih ⊢
    rw [ih]
    congr 1
    split <;> rfl
theorem kn_cat_map (b base : Nat) (st : List Value) : ((st.map (kn_v b base)).map fun v => v.category).sum = kn_cat st := by
  rw [List.map_map, kn_cat]
  congr 1
  apply List.map_congr_left
  intro v _
  exact kn_v_cat b base v
def kn_tys (cA : FieldType → ClassId) : List (ClassId × FieldType) := [(cA .int, .int), (cA .long, .long), (cA .boolean, .boolean)]
/-- what holds of the machine while a method runs -/
def kn_Ctx (cl : List vw_C) (Tg Ns : List Cond) (b base L : Nat) (xs : Nat → Int32) (cA : FieldType → ClassId) (D : va_G) (M : kn_M) (p : Program) (R : Room) (s : State) (m : MethodId) (args : Array Value) (meth : Method) (c : Code) : Prop :=
  p.tables.exec = Jvm.exec ∧ c.code = M.2.1 ∧ meth.sig.returnType = M.2.2.2.1 ∧ c.maxLocals = M.2.2.1 ∧ s.vm.findClass M.1.cls = some m.cls ∧ (∀ w ∈ Tg, w.before args s = true) ∧ (∀ w ∈ Ns, va_Nw w s) ∧ meth.locks = false ∧ (M.1.name = "<init>" → meth.name = "<init>") ∧
  va_K D cl (kn_tys cA) s ∧ va_X b L xs s s.heap ∧ b < base ∧ base ≤ s.heap.size ∧ M.2.2.2.2.1.1 ≤ R.frames ∧ M.2.2.2.2.1.2 ≤ R.locals
/-- the heap H holds the cells h, k of which were made since the method's entry -/
def kn_Rel (cl : List vw_C) (b base L : Nat) (xs : Nat → Int32) (cA : FieldType → ClassId) (D : va_G) (s : State) (H : Heap) (locs : List Loc) (k : Nat) (h : kn_H) : Prop :=
  ∃ r : kn_H, h = .inl (.int, L, .inl xs) :: r ∧ s.heap.size + k = base + r.length ∧ va_P D cl (kn_w (kn_e cA b base) base r) H ∧ va_S (fun q => base ≤ q) s.heap H locs
/-- from a frame of the machine on -/
def kn_Nx (cl : List vw_C) (b base L : Nat) (xs : Nat → Int32) (cA : FieldType → ClassId) (D : va_G) (nL : Nat) (p : Program) (l : Launch) (e : Env) (R : Room) (s : State) (m : MethodId) (args : Array Value) (below : List Frame) (meth : Method) (c : Code) (Q : State → Prop) (f : kn_F) (h : kn_H) (k z : Nat) : Prop :=
  ∀ (H : Heap) (locs : List Loc) (ls : Array Slot), kn_Rel cl b base L xs cA D s H locs k h → lv_has ls nL (kn_vs b base f.2.1) → W p l e R s m args below meth c H locs k z Q (F0 m f.1 ls (f.2.2.map (kn_v b base)))
theorem kn_bound {p : Program} {l : Launch} {e : Env} {R : Room} {s : State} {m : MethodId} {args : Array Value} {below : List Frame} {meth : Method} {c : Code} {Q : State → Prop} {H : Heap} {locs : List Loc} {k z : Nat} {g : JFrame} (kk : H.size ≤ s.heap.size + k → W p l e R s m args below meth c H locs k z Q g) : W p l e R s m args below meth c H locs k z Q g :=
  fun T hT X => kk (by rw [← hT]; exact X.heapSize) T hT X
theorem kn_to_inv {pc : Nat} {l : List (Nat × Value)} {st : List Value} {h : kn_H} {q : kn_R} (hs : kn_to pc l st h = some q) : q = .inl ((pc, l, st), h, 0, 0) := (Option.some.inj hs).symm
end
section
section KNS1
variable {p : Program} {l : Launch} {e : Env} {R : Room} {s : State} {m : MethodId} {args : Array Value} {below : List Frame} {meth : Method} {c : Code} {Q : State → Prop} {k0 z0 : Nat}
variable {cl : List vw_C} {Tg Ns : List Cond} {b base L : Nat} {xs : Nat → Int32} {cA : FieldType → ClassId} {D : va_G} {M : kn_M} {pc pc1 nL : Nat} {lo : List (Nat × Value)} {st : List Value} {h : kn_H}
variable {f1 : kn_F} {h1 : kn_H} {k z : Nat}
theorem kn_W_to {st1 : List Value} (row : ∀ {H : Heap} {locs : List Loc} {ls : Array Slot}, W p l e R s m args below meth c H locs k0 z0 Q (F0 m pc1 ls (st1.map (kn_v b base))) → W p l e R s m args below meth c H locs k0 z0 Q (F0 m pc ls (st.map (kn_v b base))))
    (hs : kn_to pc1 lo st1 h = some (.inl (f1, h1, k, z))) (hk : kn_Nx cl b base L xs cA D nL p l e R s m args below meth c Q f1 h1 (k0 + k) (z0 + z)) : kn_Nx cl b base L xs cA D nL p l e R s m args below meth c Q (pc, lo, st) h k0 z0 := by
  cases hs
  intro H locs ls hR hl
  exact row (hk H locs ls hR hl)
theorem kn_W_ldi {i : Nat} (row : ∀ {H : Heap} {locs : List Loc} {ls : Array Slot} {x : Int32} {rest : List Value}, ls[i]? = some (.val (.int x)) → W p l e R s m args below meth c H locs k0 z0 Q (F0 m pc1 ls (.int x :: rest)) → W p l e R s m args below meth c H locs k0 z0 Q (F0 m pc ls rest))
    (hs : kn_ldi pc1 lo i st h = some (.inl (f1, h1, k, z))) (hk : kn_Nx cl b base L xs cA D nL p l e R s m args below meth c Q f1 h1 (k0 + k) (z0 + z)) : kn_Nx cl b base L xs cA D nL p l e R s m args below meth c Q (pc, lo, st) h k0 z0 := by
  unfold kn_ldi at hs
  split at hs
  · rename_i x hx
    cases hs
    intro H locs ls hR hl
    exact row (kn_ld_at hl hx) (hk H locs ls hR hl)
  · cases hs
theorem kn_W_ldl {i : Nat} (row : ∀ {H : Heap} {locs : List Loc} {ls : Array Slot} {x : Int64} {rest : List Value}, ls[i]? = some (.val (.long x)) → W p l e R s m args below meth c H locs k0 z0 Q (F0 m pc1 ls (.long x :: rest)) → W p l e R s m args below meth c H locs k0 z0 Q (F0 m pc ls rest))
    (hs : kn_ldl pc1 lo i st h = some (.inl (f1, h1, k, z))) (hk : kn_Nx cl b base L xs cA D nL p l e R s m args below meth c Q f1 h1 (k0 + k) (z0 + z)) : kn_Nx cl b base L xs cA D nL p l e R s m args below meth c Q (pc, lo, st) h k0 z0 := by
  unfold kn_ldl at hs
  split at hs
  · rename_i x hx
    cases hs
    intro H locs ls hR hl
    exact row (kn_ld_at hl hx) (hk H locs ls hR hl)
  · cases hs
theorem kn_W_lda {i : Nat} (row : ∀ {H : Heap} {locs : List Loc} {ls : Array Slot} {x : Nat} {rest : List Value}, ls[i]? = some (.val (.ref x)) → W p l e R s m args below meth c H locs k0 z0 Q (F0 m pc1 ls (.ref x :: rest)) → W p l e R s m args below meth c H locs k0 z0 Q (F0 m pc ls rest))
    (rowN : ∀ {H : Heap} {locs : List Loc} {ls : Array Slot} {rest : List Value}, ls[i]? = some (.val .null) → W p l e R s m args below meth c H locs k0 z0 Q (F0 m pc1 ls (.null :: rest)) → W p l e R s m args below meth c H locs k0 z0 Q (F0 m pc ls rest))
    (hs : kn_lda pc1 lo i st h = some (.inl (f1, h1, k, z))) (hk : kn_Nx cl b base L xs cA D nL p l e R s m args below meth c Q f1 h1 (k0 + k) (z0 + z)) : kn_Nx cl b base L xs cA D nL p l e R s m args below meth c Q (pc, lo, st) h k0 z0 := by
  unfold kn_lda at hs
  split at hs
  · rename_i x hx
    cases hs
    intro H locs ls hR hl
    exact row (kn_ld_at hl hx) (hk H locs ls hR hl)
  · rename_i hx
    cases hs
    intro H locs ls hR hl
    exact rowN (kn_ld_at hl hx) (hk H locs ls hR hl)
  · cases hs
theorem kn_W_sti {i : Nat} (row : ∀ {H : Heap} {locs : List Loc} {ls : Array Slot} {x : Int32} {rest : List Value} {lv : List (Nat × Value)}, lv_has ls nL lv → i < nL → (∀ ls', lv_has ls' nL ((i, Value.int x) :: lv.filter (fun q => !(q.1 == i) && !(q.1 + 1 == i && q.2.category == 2))) → W p l e R s m args below meth c H locs k0 z0 Q (F0 m pc1 ls' rest)) → W p l e R s m args below meth c H locs k0 z0 Q (F0 m pc ls (.int x :: rest)))
    (hs : kn_sti nL pc1 lo i st h = some (.inl (f1, h1, k, z))) (hk : kn_Nx cl b base L xs cA D nL p l e R s m args below meth c Q f1 h1 (k0 + k) (z0 + z)) : kn_Nx cl b base L xs cA D nL p l e R s m args below meth c Q (pc, lo, st) h k0 z0 := by
  unfold kn_sti at hs
  split at hs
  · rename_i x r
    cases hc : Nat.ble (i + 1) nL with
    | false => rw [hc] at hs; cases hs
    | true =>
      rw [hc] at hs
      cases hs
      intro H locs ls hR hl
      exact row hl (Nat.le_of_ble_eq_true hc) (fun ls' hl' => hk H locs ls' hR (by rw [kn_vs_s1]; exact hl'))
  · cases hs
theorem kn_W_stl {i : Nat} (row : ∀ {H : Heap} {locs : List Loc} {ls : Array Slot} {x : Int64} {rest : List Value} {lv : List (Nat × Value)}, lv_has ls nL lv → i + 1 < nL → (∀ ls', lv_has ls' nL ((i, Value.long x) :: lv.filter (fun q => !(q.1 == i) && (!(q.1 == i + 1) && !(q.1 + 1 == i && q.2.category == 2)))) → W p l e R s m args below meth c H locs k0 z0 Q (F0 m pc1 ls' rest)) → W p l e R s m args below meth c H locs k0 z0 Q (F0 m pc ls (.long x :: rest)))
    (hs : kn_stl nL pc1 lo i st h = some (.inl (f1, h1, k, z))) (hk : kn_Nx cl b base L xs cA D nL p l e R s m args below meth c Q f1 h1 (k0 + k) (z0 + z)) : kn_Nx cl b base L xs cA D nL p l e R s m args below meth c Q (pc, lo, st) h k0 z0 := by
  unfold kn_stl at hs
  split at hs
  · rename_i x r
    cases hc : Nat.ble (i + 2) nL with
    | false => rw [hc] at hs; cases hs
    | true =>
      rw [hc] at hs
      cases hs
      intro H locs ls hR hl
      exact row hl (Nat.le_of_ble_eq_true hc) (fun ls' hl' => hk H locs ls' hR (by rw [kn_vs_s2]; exact hl'))
  · cases hs
theorem kn_W_sta {i : Nat} (row : ∀ {H : Heap} {locs : List Loc} {ls : Array Slot} {x : Nat} {rest : List Value} {lv : List (Nat × Value)}, lv_has ls nL lv → i < nL → (∀ ls', lv_has ls' nL ((i, Value.ref x) :: lv.filter (fun q => !(q.1 == i) && !(q.1 + 1 == i && q.2.category == 2))) → W p l e R s m args below meth c H locs k0 z0 Q (F0 m pc1 ls' rest)) → W p l e R s m args below meth c H locs k0 z0 Q (F0 m pc ls (.ref x :: rest)))
    (rowN : ∀ {H : Heap} {locs : List Loc} {ls : Array Slot} {rest : List Value} {lv : List (Nat × Value)}, lv_has ls nL lv → i < nL → (∀ ls', lv_has ls' nL ((i, Value.null) :: lv.filter (fun q => !(q.1 == i) && !(q.1 + 1 == i && q.2.category == 2))) → W p l e R s m args below meth c H locs k0 z0 Q (F0 m pc1 ls' rest)) → W p l e R s m args below meth c H locs k0 z0 Q (F0 m pc ls (.null :: rest)))
    (hs : kn_sta nL pc1 lo i st h = some (.inl (f1, h1, k, z))) (hk : kn_Nx cl b base L xs cA D nL p l e R s m args below meth c Q f1 h1 (k0 + k) (z0 + z)) : kn_Nx cl b base L xs cA D nL p l e R s m args below meth c Q (pc, lo, st) h k0 z0 := by
  unfold kn_sta at hs
  split at hs
  · rename_i x r
    cases hc : Nat.ble (i + 1) nL with
    | false => rw [hc] at hs; cases hs
    | true =>
      rw [hc] at hs
      cases hs
      intro H locs ls hR hl
      exact row hl (Nat.le_of_ble_eq_true hc) (fun ls' hl' => hk H locs ls' hR (by rw [kn_vs_s1]; exact hl'))
  · rename_i r
    cases hc : Nat.ble (i + 1) nL with
    | false => rw [hc] at hs; cases hs
    | true =>
      rw [hc] at hs
      cases hs
      intro H locs ls hR hl
      exact rowN hl (Nat.le_of_ble_eq_true hc) (fun ls' hl' => hk H locs ls' hR (by rw [kn_vs_s1]; exact hl'))
  · cases hs
theorem kn_W_inc {i : Nat} {n : Int} (row : ∀ {H : Heap} {locs : List Loc} {ls : Array Slot} {x : Int32} {rest : List Value} {lv : List (Nat × Value)} {j : Nat}, lv_has ls nL lv → lv[j]? = some (i, .int x) → i < nL → (∀ ls', lv_has ls' nL ((i, Value.int (x + Int32.ofInt n)) :: lv.filter (fun q => !(q.1 == i) && !(q.1 + 1 == i && q.2.category == 2))) → W p l e R s m args below meth c H locs k0 z0 Q (F0 m pc1 ls' rest)) → W p l e R s m args below meth c H locs k0 z0 Q (F0 m pc ls rest))
    (hs : kn_inc nL pc1 lo i n st h = some (.inl (f1, h1, k, z))) (hk : kn_Nx cl b base L xs cA D nL p l e R s m args below meth c Q f1 h1 (k0 + k) (z0 + z)) : kn_Nx cl b base L xs cA D nL p l e R s m args below meth c Q (pc, lo, st) h k0 z0 := by
  unfold kn_inc at hs
  split at hs
  · rename_i x hx
    cases hc : Nat.ble (i + 1) nL with
    | false => rw [hc] at hs; cases hs
    | true =>
      rw [hc] at hs
      cases hs
      intro H locs ls hR hl
      have hm : (i, Value.int x) ∈ kn_vs b base lo := List.mem_map.mpr ⟨(i, .int x), kn_ld_mem hx, rfl⟩
      obtain ⟨j, hj⟩ := List.getElem?_of_mem hm
      exact row hl hj (Nat.le_of_ble_eq_true hc) (fun ls' hl' => hk H locs ls' hR (by rw [kn_vs_s1]; exact hl'))
  · cases hs
theorem kn_W_ii {f : Int32 → Int32 → Int32} (row : ∀ {H : Heap} {locs : List Loc} {ls : Array Slot} {x y : Int32} {rest : List Value}, W p l e R s m args below meth c H locs k0 z0 Q (F0 m pc1 ls (.int (f x y) :: rest)) → W p l e R s m args below meth c H locs k0 z0 Q (F0 m pc ls (.int y :: .int x :: rest)))
    (hs : kn_ii f pc1 lo st h = some (.inl (f1, h1, k, z))) (hk : kn_Nx cl b base L xs cA D nL p l e R s m args below meth c Q f1 h1 (k0 + k) (z0 + z)) : kn_Nx cl b base L xs cA D nL p l e R s m args below meth c Q (pc, lo, st) h k0 z0 := by
  unfold kn_ii at hs
  split at hs
  · cases hs
    intro H locs ls hR hl
    exact row (hk H locs ls hR hl)
  · cases hs
theorem kn_W_id {f : Int32 → Int32 → Int32} (row : ∀ {H : Heap} {locs : List Loc} {ls : Array Slot} {x y : Int32} {rest : List Value}, ¬ y = 0 → W p l e R s m args below meth c H locs k0 z0 Q (F0 m pc1 ls (.int (f x y) :: rest)) → W p l e R s m args below meth c H locs k0 z0 Q (F0 m pc ls (.int y :: .int x :: rest)))
    (hs : kn_id f pc1 lo st h = some (.inl (f1, h1, k, z))) (hk : kn_Nx cl b base L xs cA D nL p l e R s m args below meth c Q f1 h1 (k0 + k) (z0 + z)) : kn_Nx cl b base L xs cA D nL p l e R s m args below meth c Q (pc, lo, st) h k0 z0 := by
  unfold kn_id at hs
  split at hs
  · split at hs
    · cases hs
    · rename_i hne
      cases hs
      intro H locs ls hR hl
      exact row hne (hk H locs ls hR hl)
  · cases hs
theorem kn_W_ll {f : Int64 → Int64 → Int64} (row : ∀ {H : Heap} {locs : List Loc} {ls : Array Slot} {x y : Int64} {rest : List Value}, W p l e R s m args below meth c H locs k0 z0 Q (F0 m pc1 ls (.long (f x y) :: rest)) → W p l e R s m args below meth c H locs k0 z0 Q (F0 m pc ls (.long y :: .long x :: rest)))
    (hs : kn_ll f pc1 lo st h = some (.inl (f1, h1, k, z))) (hk : kn_Nx cl b base L xs cA D nL p l e R s m args below meth c Q f1 h1 (k0 + k) (z0 + z)) : kn_Nx cl b base L xs cA D nL p l e R s m args below meth c Q (pc, lo, st) h k0 z0 := by
  unfold kn_ll at hs
  split at hs
  · cases hs
    intro H locs ls hR hl
    exact row (hk H locs ls hR hl)
  · cases hs
theorem kn_W_ldv {f : Int64 → Int64 → Int64} (row : ∀ {H : Heap} {locs : List Loc} {ls : Array Slot} {x y : Int64} {rest : List Value}, ¬ y = 0 → W p l e R s m args below meth c H locs k0 z0 Q (F0 m pc1 ls (.long (f x y) :: rest)) → W p l e R s m args below meth c H locs k0 z0 Q (F0 m pc ls (.long y :: .long x :: rest)))
    (hs : kn_ldv f pc1 lo st h = some (.inl (f1, h1, k, z))) (hk : kn_Nx cl b base L xs cA D nL p l e R s m args below meth c Q f1 h1 (k0 + k) (z0 + z)) : kn_Nx cl b base L xs cA D nL p l e R s m args below meth c Q (pc, lo, st) h k0 z0 := by
  unfold kn_ldv at hs
  split at hs
  · split at hs
    · cases hs
    · rename_i hne
      cases hs
      intro H locs ls hR hl
      exact row hne (hk H locs ls hR hl)
  · cases hs
theorem kn_W_li {f : Int64 → Int32 → Int64} (row : ∀ {H : Heap} {locs : List Loc} {ls : Array Slot} {x : Int64} {y : Int32} {rest : List Value}, W p l e R s m args below meth c H locs k0 z0 Q (F0 m pc1 ls (.long (f x y) :: rest)) → W p l e R s m args below meth c H locs k0 z0 Q (F0 m pc ls (.int y :: .long x :: rest)))
    (hs : kn_li f pc1 lo st h = some (.inl (f1, h1, k, z))) (hk : kn_Nx cl b base L xs cA D nL p l e R s m args below meth c Q f1 h1 (k0 + k) (z0 + z)) : kn_Nx cl b base L xs cA D nL p l e R s m args below meth c Q (pc, lo, st) h k0 z0 := by
  unfold kn_li at hs
  split at hs
  · cases hs
    intro H locs ls hR hl
    exact row (hk H locs ls hR hl)
  · cases hs
theorem kn_W_lc (row : ∀ {H : Heap} {locs : List Loc} {ls : Array Slot} {x y : Int64} {rest : List Value}, W p l e R s m args below meth c H locs k0 z0 Q (F0 m pc1 ls (.int (lg_cmp x y) :: rest)) → W p l e R s m args below meth c H locs k0 z0 Q (F0 m pc ls (.long y :: .long x :: rest)))
    (hs : kn_lc pc1 lo st h = some (.inl (f1, h1, k, z))) (hk : kn_Nx cl b base L xs cA D nL p l e R s m args below meth c Q f1 h1 (k0 + k) (z0 + z)) : kn_Nx cl b base L xs cA D nL p l e R s m args below meth c Q (pc, lo, st) h k0 z0 := by
  unfold kn_lc at hs
  split at hs
  · cases hs
    intro H locs ls hR hl
    exact row (hk H locs ls hR hl)
  · cases hs
theorem kn_W_1i {f : Int32 → Value} (row : ∀ {H : Heap} {locs : List Loc} {ls : Array Slot} {x : Int32} {rest : List Value}, W p l e R s m args below meth c H locs k0 z0 Q (F0 m pc1 ls (kn_v b base (f x) :: rest)) → W p l e R s m args below meth c H locs k0 z0 Q (F0 m pc ls (.int x :: rest)))
    (hs : kn_1i f pc1 lo st h = some (.inl (f1, h1, k, z))) (hk : kn_Nx cl b base L xs cA D nL p l e R s m args below meth c Q f1 h1 (k0 + k) (z0 + z)) : kn_Nx cl b base L xs cA D nL p l e R s m args below meth c Q (pc, lo, st) h k0 z0 := by
  unfold kn_1i at hs
  split at hs
  · cases hs
    intro H locs ls hR hl
    exact row (hk H locs ls hR hl)
  · cases hs
theorem kn_W_1l {f : Int64 → Value} (row : ∀ {H : Heap} {locs : List Loc} {ls : Array Slot} {x : Int64} {rest : List Value}, W p l e R s m args below meth c H locs k0 z0 Q (F0 m pc1 ls (kn_v b base (f x) :: rest)) → W p l e R s m args below meth c H locs k0 z0 Q (F0 m pc ls (.long x :: rest)))
    (hs : kn_1l f pc1 lo st h = some (.inl (f1, h1, k, z))) (hk : kn_Nx cl b base L xs cA D nL p l e R s m args below meth c Q f1 h1 (k0 + k) (z0 + z)) : kn_Nx cl b base L xs cA D nL p l e R s m args below meth c Q (pc, lo, st) h k0 z0 := by
  unfold kn_1l at hs
  split at hs
  · cases hs
    intro H locs ls hR hl
    exact row (hk H locs ls hR hl)
  · cases hs
theorem kn_c1_eq {v : Value} (h : kn_c1 v = true) : (kn_v b base v).category = 1 := by rw [kn_v_cat]; exact Nat.eq_of_beq_eq_true h
theorem kn_W_dup (row : ∀ {H : Heap} {locs : List Loc} {ls : Array Slot} {x : Value} {rest : List Value}, x.category = 1 → W p l e R s m args below meth c H locs k0 z0 Q (F0 m pc1 ls (x :: x :: rest)) → W p l e R s m args below meth c H locs k0 z0 Q (F0 m pc ls (x :: rest)))
    (hs : kn_dup pc1 lo st h = some (.inl (f1, h1, k, z))) (hk : kn_Nx cl b base L xs cA D nL p l e R s m args below meth c Q f1 h1 (k0 + k) (z0 + z)) : kn_Nx cl b base L xs cA D nL p l e R s m args below meth c Q (pc, lo, st) h k0 z0 := by
  unfold kn_dup at hs
  split at hs
  · rename_i a r
    cases hc : kn_c1 a with
    | false => rw [hc] at hs; cases hs
    | true =>
      rw [hc] at hs
      cases hs
      intro H locs ls hR hl
      exact row (kn_c1_eq hc) (hk H locs ls hR hl)
  · cases hs
theorem kn_W_pop (row : ∀ {H : Heap} {locs : List Loc} {ls : Array Slot} {x : Value} {rest : List Value}, x.category = 1 → W p l e R s m args below meth c H locs k0 z0 Q (F0 m pc1 ls rest) → W p l e R s m args below meth c H locs k0 z0 Q (F0 m pc ls (x :: rest)))
    (hs : kn_pop pc1 lo st h = some (.inl (f1, h1, k, z))) (hk : kn_Nx cl b base L xs cA D nL p l e R s m args below meth c Q f1 h1 (k0 + k) (z0 + z)) : kn_Nx cl b base L xs cA D nL p l e R s m args below meth c Q (pc, lo, st) h k0 z0 := by
  unfold kn_pop at hs
  split at hs
  · rename_i a r
    cases hc : kn_c1 a with
    | false => rw [hc] at hs; cases hs
    | true =>
      rw [hc] at hs
      cases hs
      intro H locs ls hR hl
      exact row (kn_c1_eq (b := b) (base := base) hc) (hk H locs ls hR hl)
  · cases hs
theorem kn_W_dx1 (row : ∀ {H : Heap} {locs : List Loc} {ls : Array Slot} {x y : Value} {rest : List Value}, x.category = 1 → y.category = 1 → W p l e R s m args below meth c H locs k0 z0 Q (F0 m pc1 ls (x :: y :: x :: rest)) → W p l e R s m args below meth c H locs k0 z0 Q (F0 m pc ls (x :: y :: rest)))
    (hs : kn_dx1 pc1 lo st h = some (.inl (f1, h1, k, z))) (hk : kn_Nx cl b base L xs cA D nL p l e R s m args below meth c Q f1 h1 (k0 + k) (z0 + z)) : kn_Nx cl b base L xs cA D nL p l e R s m args below meth c Q (pc, lo, st) h k0 z0 := by
  unfold kn_dx1 at hs
  split at hs
  · rename_i a a2 r
    cases hc : kn_c1 a && kn_c1 a2 with
    | false => rw [hc] at hs; cases hs
    | true =>
      rw [hc] at hs
      obtain ⟨c1, c2⟩ := Bool.and_eq_true_iff.mp hc
      cases hs
      intro H locs ls hR hl
      exact row (kn_c1_eq c1) (kn_c1_eq c2) (hk H locs ls hR hl)
  · cases hs
theorem kn_W_dx2 (row : ∀ {H : Heap} {locs : List Loc} {ls : Array Slot} {x y w : Value} {rest : List Value}, x.category = 1 → y.category = 1 → w.category = 1 → W p l e R s m args below meth c H locs k0 z0 Q (F0 m pc1 ls (x :: y :: w :: x :: rest)) → W p l e R s m args below meth c H locs k0 z0 Q (F0 m pc ls (x :: y :: w :: rest)))
    (hs : kn_dx2 pc1 lo st h = some (.inl (f1, h1, k, z))) (hk : kn_Nx cl b base L xs cA D nL p l e R s m args below meth c Q f1 h1 (k0 + k) (z0 + z)) : kn_Nx cl b base L xs cA D nL p l e R s m args below meth c Q (pc, lo, st) h k0 z0 := by
  unfold kn_dx2 at hs
  split at hs
  · rename_i a a2 a3 r
    cases hc : kn_c1 a && (kn_c1 a2 && kn_c1 a3) with
    | false => rw [hc] at hs; cases hs
    | true =>
      rw [hc] at hs
      obtain ⟨c1, c2⟩ := Bool.and_eq_true_iff.mp hc
      obtain ⟨c2, c3⟩ := Bool.and_eq_true_iff.mp c2
      cases hs
      intro H locs ls hR hl
      exact row (kn_c1_eq c1) (kn_c1_eq c2) (kn_c1_eq c3) (hk H locs ls hR hl)
  · cases hs
theorem kn_W_d2 (row : ∀ {H : Heap} {locs : List Loc} {ls : Array Slot} {x y : Value} {rest : List Value}, x.category = 1 → y.category = 1 → W p l e R s m args below meth c H locs k0 z0 Q (F0 m pc1 ls (x :: y :: x :: y :: rest)) → W p l e R s m args below meth c H locs k0 z0 Q (F0 m pc ls (x :: y :: rest)))
    (hs : kn_d2 pc1 lo st h = some (.inl (f1, h1, k, z))) (hk : kn_Nx cl b base L xs cA D nL p l e R s m args below meth c Q f1 h1 (k0 + k) (z0 + z)) : kn_Nx cl b base L xs cA D nL p l e R s m args below meth c Q (pc, lo, st) h k0 z0 := by
  unfold kn_d2 at hs
  split at hs
  · rename_i a a2 r
    cases hc : kn_c1 a && kn_c1 a2 with
    | false => rw [hc] at hs; cases hs
    | true =>
      rw [hc] at hs
      obtain ⟨c1, c2⟩ := Bool.and_eq_true_iff.mp hc
      cases hs
      intro H locs ls hR hl
      exact row (kn_c1_eq c1) (kn_c1_eq c2) (hk H locs ls hR hl)
  · cases hs
theorem kn_W_br {cc : ByteArray} {cnd : ClassFile.Cond} {t n : Nat} {off : Int} (hx : p.tables.exec = Jvm.exec) (hb : c.code = cc) (hd : decode cc pc = .ok (.if_icmp cnd off, 3)) (ht : (pc : Int) + off = (t : Int)) (hn : n = pc + 3)
    (hs : kn_cmp cnd t n lo st h = some (.inl (f1, h1, k, z))) (hk : kn_Nx cl b base L xs cA D nL p l e R s m args below meth c Q f1 h1 (k0 + k) (z0 + z)) : kn_Nx cl b base L xs cA D nL p l e R s m args below meth c Q (pc, lo, st) h k0 z0 := by
  subst hn
  unfold kn_cmp at hs
  split at hs
  · rename_i y x r
    intro H locs ls hR hl
    cases cnd <;> simp only [kn_br] at hs <;> split at hs <;> rename_i hc <;> cases hs
    · exact lv_icmp_eq hx hb hd ht (fun _ => hk H locs ls hR hl) (fun h => absurd hc h)
    · exact lv_icmp_eq hx hb hd ht (fun h => absurd h hc) (fun _ => hk H locs ls hR hl)
    · exact lv_icmp_ne hx hb hd ht (fun h => absurd hc h) (fun _ => hk H locs ls hR hl)
    · exact lv_icmp_ne hx hb hd ht (fun _ => hk H locs ls hR hl) (fun h => absurd h hc)
    · exact lv_icmp_lt hx hb hd ht (fun _ => hk H locs ls hR hl) (fun h => absurd hc h)
    · exact lv_icmp_lt hx hb hd ht (fun h => absurd h hc) (fun _ => hk H locs ls hR hl)
    · exact lv_icmp_ge hx hb hd ht (fun _ => hk H locs ls hR hl) (fun h => absurd hc h)
    · exact lv_icmp_ge hx hb hd ht (fun h => absurd h hc) (fun _ => hk H locs ls hR hl)
    · exact lv_icmp_gt hx hb hd ht (fun _ => hk H locs ls hR hl) (fun h => absurd hc h)
    · exact lv_icmp_gt hx hb hd ht (fun h => absurd h hc) (fun _ => hk H locs ls hR hl)
    · exact lv_icmp_le hx hb hd ht (fun _ => hk H locs ls hR hl) (fun h => absurd hc h)
    · exact lv_icmp_le hx hb hd ht (fun h => absurd h hc) (fun _ => hk H locs ls hR hl)
  · cases hs
theorem kn_W_if {cc : ByteArray} {cnd : ClassFile.Cond} {t n : Nat} {off : Int} (hx : p.tables.exec = Jvm.exec) (hb : c.code = cc) (hd : decode cc pc = .ok (.ifCond cnd off, 3)) (ht : (pc : Int) + off = (t : Int)) (hn : n = pc + 3)
    (hs : kn_if cnd t n lo st h = some (.inl (f1, h1, k, z))) (hk : kn_Nx cl b base L xs cA D nL p l e R s m args below meth c Q f1 h1 (k0 + k) (z0 + z)) : kn_Nx cl b base L xs cA D nL p l e R s m args below meth c Q (pc, lo, st) h k0 z0 := by
  subst hn
  unfold kn_if at hs
  split at hs
  · rename_i x r
    intro H locs ls hR hl
    cases cnd <;> simp only [kn_br] at hs <;> split at hs <;> rename_i hc <;> cases hs
    · exact lv_if_eq hx hb hd ht (fun _ => hk H locs ls hR hl) (fun h => absurd hc h)
    · exact lv_if_eq hx hb hd ht (fun h => absurd h hc) (fun _ => hk H locs ls hR hl)
    · exact lv_if_ne hx hb hd ht (fun h => absurd hc h) (fun _ => hk H locs ls hR hl)
    · exact lv_if_ne hx hb hd ht (fun _ => hk H locs ls hR hl) (fun h => absurd h hc)
    · exact lv_if_lt hx hb hd ht (fun _ => hk H locs ls hR hl) (fun h => absurd hc h)
    · exact lv_if_lt hx hb hd ht (fun h => absurd h hc) (fun _ => hk H locs ls hR hl)
    · exact lv_if_ge hx hb hd ht (fun _ => hk H locs ls hR hl) (fun h => absurd hc h)
    · exact lv_if_ge hx hb hd ht (fun h => absurd h hc) (fun _ => hk H locs ls hR hl)
    · exact lv_if_gt hx hb hd ht (fun _ => hk H locs ls hR hl) (fun h => absurd hc h)
    · exact lv_if_gt hx hb hd ht (fun h => absurd h hc) (fun _ => hk H locs ls hR hl)
    · exact lv_if_le hx hb hd ht (fun _ => hk H locs ls hR hl) (fun h => absurd hc h)
    · exact lv_if_le hx hb hd ht (fun h => absurd h hc) (fun _ => hk H locs ls hR hl)
  · cases hs
theorem kn_W_null {cc : ByteArray} {t : Nat} {off : Int} (hx : p.tables.exec = Jvm.exec) (hb : c.code = cc) (hd : decode cc pc = .ok (.ifnull off, 3)) (ht : (pc : Int) + off = (t : Int))
    (hs : kn_nul t (pc + 3) lo st h = some (.inl (f1, h1, k, z))) (hk : kn_Nx cl b base L xs cA D nL p l e R s m args below meth c Q f1 h1 (k0 + k) (z0 + z)) : kn_Nx cl b base L xs cA D nL p l e R s m args below meth c Q (pc, lo, st) h k0 z0 := by
  unfold kn_nul at hs
  split at hs
  · cases hs
    intro H locs ls hR hl
    exact lv_ifnull hx hb hd (hk H locs ls hR hl)
  · cases hs
    intro H locs ls hR hl
    exact lv_ifnullN hx hb hd ht (hk H locs ls hR hl)
  · cases hs
theorem kn_W_nonnull {cc : ByteArray} {t : Nat} {off : Int} (hx : p.tables.exec = Jvm.exec) (hb : c.code = cc) (hd : decode cc pc = .ok (.ifnonnull off, 3)) (ht : (pc : Int) + off = (t : Int))
    (hs : kn_nul (pc + 3) t lo st h = some (.inl (f1, h1, k, z))) (hk : kn_Nx cl b base L xs cA D nL p l e R s m args below meth c Q f1 h1 (k0 + k) (z0 + z)) : kn_Nx cl b base L xs cA D nL p l e R s m args below meth c Q (pc, lo, st) h k0 z0 := by
  unfold kn_nul at hs
  split at hs
  · cases hs
    intro H locs ls hR hl
    exact lv_ifnonnull hx hb hd ht (hk H locs ls hR hl)
  · cases hs
    intro H locs ls hR hl
    exact lv_ifnonnullN hx hb hd (hk H locs ls hR hl)
  · cases hs
end KNS1
end
section
theorem kn_fit_ok {b base tc : Nat} {ty : FieldType} {v : Value} (ht : kn_tc ty = tc) (hf : kn_fit tc v = true) : narrow ty (kn_v b base v) = kn_v b base v ∧ fits ty (kn_v b base v) = true := by
  subst ht
  cases v with
  | int x =>
    cases ty <;> first | exact ⟨rfl, rfl⟩ | (exfalso; exact Bool.false_ne_true hf) | skip
    have hx : (x == 0 || x == 1) = true := hf
    rcases Bool.or_eq_true_iff.mp hx with h | h
    · have e := eq_of_beq h
      subst e
      exact ⟨rfl, rfl⟩
    · have e := eq_of_beq h
      subst e
      exact ⟨rfl, rfl⟩
  | long x => cases ty <;> first | exact ⟨rfl, rfl⟩ | (exfalso; exact Bool.false_ne_true hf)
  | null => cases ty <;> first | exact ⟨rfl, rfl⟩ | (exfalso; exact Bool.false_ne_true hf)
  | ref a => cases ty <;> first | exact ⟨rfl, rfl⟩ | (exfalso; exact Bool.false_ne_true hf)
  | float x => cases hf
  | double x => cases hf
  | retAddr x => cases hf
section KNS2
variable {p : Program} {l : Launch} {e : Env} {R : Room} {s : State} {m : MethodId} {args : Array Value} {below : List Frame} {meth : Method} {c : Code} {Q : State → Prop} {k0 z0 : Nat}
variable {cl : List vw_C} {Tg Ns : List Cond} {b base L : Nat} {xs : Nat → Int32} {cA : FieldType → ClassId} {D : va_G} {M : kn_M} {pc pc1 nL : Nat} {lo : List (Nat × Value)} {st : List Value} {h : kn_H}
variable {f1 : kn_F} {h1 : kn_H} {k z : Nat}
theorem kn_W_get {ci fk idx : Nat} {rest : List Nat} {C : String} {F : u_T} {N : Nat} (C0 : kn_Ctx cl Tg Ns b base L xs cA D M p R s m args meth c) (hc : cl[ci]? = some (C, F, N)) (hin : ∀ w ∈ u_ws C F N, w ∈ Tg) (hkN : fk < N)
    (hw : Cond.fieldLink M.1.cls idx (F fk).1 (F fk).2.1 (F fk).2.2.1 ∈ Tg ∨ ∃ host, Cond.fieldLinkNest M.1.cls idx (F fk).1 (F fk).2.1 (F fk).2.2.1 host ∈ Ns) (hd : decode M.2.1 pc = .ok (.getfield idx, 3))
    (hs : kn_get (pc + 3) (ci :: fk :: rest) lo st h = some (.inl (f1, h1, k, z))) (hk : kn_Nx cl b base L xs cA D nL p l e R s m args below meth c Q f1 h1 (k0 + k) (z0 + z)) : kn_Nx cl b base L xs cA D nL p l e R s m args below meth c Q (pc, lo, st) h k0 z0 := by
  obtain ⟨hx, hb, hr, hml, hown, hts, hns, hlk, hnm, hK, hX, hbb, hbs, hfr, hlc⟩ := C0
  unfold kn_get at hs
  split at hs
  · rename_i a r ci' fk' rest' he
    obtain ⟨rfl, rfl, rfl⟩ : ci = ci' ∧ fk = fk' ∧ rest = rest' := by simpa using he
    split at hs
    · rename_i c' fs hat
      cases hbq : Nat.beq c' ci with
      | false => rw [hbq] at hs; cases hs
      | true =>
        rw [hbq] at hs
        have hce : c' = ci := Nat.eq_of_beq_eq_true hbq
        subst hce
        dsimp only [cond_true] at hs
        split at hs
        · rename_i v hv
          cases hs
          intro H locs ls hR hl
          obtain ⟨rr, rfl, hz, hP, hS⟩ := id hR
          cases a with
          | zero => cases hat
          | succ a =>
            have hat' : kn_at rr a = some (.inr (c', fs)) := hat
            have hv' : (fs.map (kn_v b base))[fk]? = some (kn_v b base v) := by rw [List.getElem?_map, ← kn_at_eq, hv]; rfl
            rcases hw with hw | ⟨host, hw⟩
            · exact va_get hx hb hts hin hown hK hP a (kn_w_get hat') hc fk hkN (hts _ hw) (fun _ h9 => h9) hv' hd (hk H locs ls hR hl)
            · exact va_getN hx hb hts hin hown hK hP a (kn_w_get hat') hc fk hkN (va_Nw.use rfl (hns _ hw)) (fun _ h9 => h9) hv' hd (hk H locs ls hR hl)
        · cases hs
    · cases hs
  · cases hs
/-- a cell's new contents -/
theorem kn_rel_set {H1 : Heap} {locs1 : List Loc} {rr : kn_H} {a : Nat} {x : kn_C} (hz : s.heap.size + k0 = base + rr.length) (hP : va_P D cl ((kn_w (kn_e cA b base) base rr).set a (base + a, kn_e cA b base x)) H1) (hS : va_S (fun q => base ≤ q) s.heap H1 locs1) : kn_Rel cl b base L xs cA D s H1 locs1 k0 ((Sum.inl (.int, L, .inl xs) :: rr).set (a + 1) x) :=
  ⟨rr.set a x, rfl, by rw [List.length_set]; exact hz, by rw [kn_w_set]; exact hP, hS⟩
theorem kn_W_put {ci fk tc idx : Nat} {rest : List Nat} {C : String} {F : u_T} {N : Nat} {ty : FieldType} (C0 : kn_Ctx cl Tg Ns b base L xs cA D M p R s m args meth c) (hc : cl[ci]? = some (C, F, N)) (hin : ∀ w ∈ u_ws C F N, w ∈ Tg) (hkN : fk < N)
    (ty0 : Nat → FieldType) (hty : ∀ k, k < N → parseFieldDescriptor (F k).2.2.1 = some (ty0 k)) (hnmF : ∀ a, a < N → ∀ b, b < N → a ≠ b → (F a).2.1 ≠ (F b).2.1) (htc : parseFieldDescriptor (F fk).2.2.1 = some ty) (htc2 : kn_tc ty = tc)
    (hw : ((F fk).2.2.2 = false ∧ (Cond.fieldLink M.1.cls idx (F fk).1 (F fk).2.1 (F fk).2.2.1 ∈ Tg ∨ ∃ host, Cond.fieldLinkNest M.1.cls idx (F fk).1 (F fk).2.1 (F fk).2.2.1 host ∈ Ns)) ∨ ((F fk).2.2.2 = true ∧ M.1.name = "<init>" ∧ (F fk).1 = M.1.cls ∧ Cond.fieldLink M.1.cls idx (F fk).1 (F fk).2.1 (F fk).2.2.1 ∈ Tg)) (hd : decode M.2.1 pc = .ok (.putfield idx, 3))
    (hs : kn_put (pc + 3) (ci :: fk :: tc :: rest) lo st h = some (.inl (f1, h1, k, z))) (hk : kn_Nx cl b base L xs cA D nL p l e R s m args below meth c Q f1 h1 (k0 + k) (z0 + z)) : kn_Nx cl b base L xs cA D nL p l e R s m args below meth c Q (pc, lo, st) h k0 z0 := by
  obtain ⟨hx, hb, hr, hml, hown, hts, hns, hlk, hnm, hK, hX, hbb, hbs, hfr, hlc⟩ := C0
  unfold kn_put at hs
  split at hs
  · rename_i v a r ci' fk' tc' rest' he
    obtain ⟨rfl, rfl, rfl, rfl⟩ : ci = ci' ∧ fk = fk' ∧ tc = tc' ∧ rest = rest' := by simpa using he
    split at hs
    · rename_i c' fs hat
      cases hbq : Nat.beq c' ci && (Nat.ble (fk + 1) fs.length && kn_fit tc v) with
      | false => rw [hbq] at hs; cases hs
      | true =>
        rw [hbq] at hs
        obtain ⟨q1, q2⟩ := Bool.and_eq_true_iff.mp hbq
        obtain ⟨q2, q3⟩ := Bool.and_eq_true_iff.mp q2
        have hce : c' = ci := Nat.eq_of_beq_eq_true q1
        have hlt : fk < fs.length := Nat.le_of_ble_eq_true q2
        subst hce
        cases hs
        intro H locs ls hR hl
        obtain ⟨rr, rfl, hz, hP, hS⟩ := id hR
        have hat' : kn_at rr a = some (.inr (c', fs)) := hat
        obtain ⟨hn1, hf1⟩ := kn_fit_ok (b := b) (base := base) htc2 q3
        have hD := kn_w_D (kn_e cA b base) rr base
        have hlm : fk < (fs.map (kn_v b base)).length := by rw [List.length_map]; exact hlt
        have key : ∀ (H1 : Heap) (locs1 : List Loc), va_P D cl ((kn_w (kn_e cA b base) base rr).set a (base + a, .inr (c', (fs.map (kn_v b base)).set fk (kn_v b base v)))) H1 → va_S (fun q => base ≤ q) s.heap H1 locs1 → W p l e R s m args below meth c H1 locs1 k0 z0 Q (F0 m (pc + 3) ls (r.map (kn_v b base))) := by
          intro H1 locs1 hP1 hS1
          refine hk H1 locs1 ls (kn_rel_set hz ?_ hS1) hl
          rw [← List.map_set] at hP1
          exact hP1
        rcases hw with ⟨hfin, hw | ⟨host, hw⟩⟩ | ⟨hfin, hin2, hdecl, hw⟩
        · exact va_put hx hb hts hin ty0 hty hnmF hown hK hP hD hS a (kn_w_get hat') hc fk hkN (hts _ hw) (fun _ h9 => h9) hfin htc hn1 hf1 hlm hd (fun H1 locs1 hP1 _ hS1 => key H1 locs1 hP1 hS1)
        · exact va_putN hx hb hts hin ty0 hty hnmF hown hK hP hD hS a (kn_w_get hat') hc fk hkN (va_Nw.use rfl (hns _ hw)) (fun _ h9 => h9) hfin htc hn1 hf1 hlm hd (fun H1 locs1 hP1 _ hS1 => key H1 locs1 hP1 hS1)
        · exact va_putF hx hb hts hin ty0 hty hnmF hown hK hP hD hS a (kn_w_get hat') hc fk hkN (hts _ hw) (fun _ h9 => h9) hfin (hnm hin2) hdecl htc hn1 hf1 hlm hd (fun H1 locs1 hP1 _ hS1 => key H1 locs1 hP1 hS1)
    · cases hs
  · cases hs
theorem kn_W_ald (C0 : kn_Ctx cl Tg Ns b base L xs cA D M p R s m args meth c) (hd : decode M.2.1 pc = .ok (.iaload, 1))
    (hs : kn_ald 0 (pc + 1) lo st h = some (.inl (f1, h1, k, z))) (hk : kn_Nx cl b base L xs cA D nL p l e R s m args below meth c Q f1 h1 (k0 + k) (z0 + z)) : kn_Nx cl b base L xs cA D nL p l e R s m args below meth c Q (pc, lo, st) h k0 z0 := by
  obtain ⟨hx, hb, hr, hml, hown, hts, hns, hlk, hnm, hK, hX, hbb, hbs, hfr, hlc⟩ := C0
  unfold kn_ald at hs
  split at hs
  · rename_i i a r
    split at hs
    · rename_i ty n f hat
      cases hbq : Nat.beq (kn_tc ty) 0 with
      | false => rw [hbq] at hs; cases hs
      | true =>
        rw [hbq] at hs
        dsimp only [cond_true] at hs
        split at hs
        · cases hs
        · rename_i hv
          cases hs
          have hty : ty = .int := by cases ty <;> first | rfl | cases hbq
          subst hty
          intro H locs ls hR hl
          obtain ⟨rr, rfl, hz, hP, hS⟩ := id hR
          cases a with
          | zero =>
            cases hat
            exact va_sld hx hb hX (Nat.lt_of_lt_of_le hbb hbs) (Nat.not_le.mpr hbb) hS hv hd (hk H locs ls hR hl)
          | succ a =>
            have hat' : kn_at rr a = some (.inl (.int, n, .inl f)) := hat
            exact va_iald hx hb hK hP a 0 (kn_w_get hat') rfl hv hd (hk H locs ls hR hl)
    · cases hs
  · cases hs
theorem kn_W_bald (C0 : kn_Ctx cl Tg Ns b base L xs cA D M p R s m args meth c) (hd : decode M.2.1 pc = .ok (.baload, 1))
    (hs : kn_ald 2 (pc + 1) lo st h = some (.inl (f1, h1, k, z))) (hk : kn_Nx cl b base L xs cA D nL p l e R s m args below meth c Q f1 h1 (k0 + k) (z0 + z)) : kn_Nx cl b base L xs cA D nL p l e R s m args below meth c Q (pc, lo, st) h k0 z0 := by
  obtain ⟨hx, hb, hr, hml, hown, hts, hns, hlk, hnm, hK, hX, hbb, hbs, hfr, hlc⟩ := C0
  unfold kn_ald at hs
  split at hs
  · rename_i i a r
    split at hs
    · rename_i ty n f hat
      cases hbq : Nat.beq (kn_tc ty) 2 with
      | false => rw [hbq] at hs; cases hs
      | true =>
        rw [hbq] at hs
        dsimp only [cond_true] at hs
        split at hs
        · cases hs
        · rename_i hv
          cases hs
          have hty : ty = .boolean := by cases ty <;> first | rfl | cases hbq
          subst hty
          intro H locs ls hR hl
          obtain ⟨rr, rfl, hz, hP, hS⟩ := id hR
          cases a with
          | zero => cases hat
          | succ a =>
            have hat' : kn_at rr a = some (.inl (.boolean, n, .inl f)) := hat
            exact va_zald hx hb hK hP a 2 (kn_w_get hat') rfl hv hd (hk H locs ls hR hl)
    · cases hs
  · cases hs
theorem kn_W_lald (C0 : kn_Ctx cl Tg Ns b base L xs cA D M p R s m args meth c) (hd : decode M.2.1 pc = .ok (.laload, 1))
    (hs : kn_lald (pc + 1) lo st h = some (.inl (f1, h1, k, z))) (hk : kn_Nx cl b base L xs cA D nL p l e R s m args below meth c Q f1 h1 (k0 + k) (z0 + z)) : kn_Nx cl b base L xs cA D nL p l e R s m args below meth c Q (pc, lo, st) h k0 z0 := by
  obtain ⟨hx, hb, hr, hml, hown, hts, hns, hlk, hnm, hK, hX, hbb, hbs, hfr, hlc⟩ := C0
  unfold kn_lald at hs
  split at hs
  · rename_i i a r
    split at hs
    · rename_i ty n f hat
      cases hbq : Nat.beq (kn_tc ty) 1 with
      | false => rw [hbq] at hs; cases hs
      | true =>
        rw [hbq] at hs
        dsimp only [cond_true] at hs
        split at hs
        · cases hs
        · rename_i hv
          cases hs
          have hty : ty = .long := by cases ty <;> first | rfl | cases hbq
          subst hty
          intro H locs ls hR hl
          obtain ⟨rr, rfl, hz, hP, hS⟩ := id hR
          have hat' : kn_at rr a = some (.inl (.long, n, .inr (.inl f))) := hat
          exact va_lald hx hb hK hP a 1 (kn_w_get hat') rfl hv hd (hk H locs ls hR hl)
    · cases hs
  · cases hs
theorem kn_W_ast (C0 : kn_Ctx cl Tg Ns b base L xs cA D M p R s m args meth c) (hd : decode M.2.1 pc = .ok (.iastore, 1))
    (hs : kn_ast (pc + 1) lo st h = some (.inl (f1, h1, k, z))) (hk : kn_Nx cl b base L xs cA D nL p l e R s m args below meth c Q f1 h1 (k0 + k) (z0 + z)) : kn_Nx cl b base L xs cA D nL p l e R s m args below meth c Q (pc, lo, st) h k0 z0 := by
  obtain ⟨hx, hb, hr, hml, hown, hts, hns, hlk, hnm, hK, hX, hbb, hbs, hfr, hlc⟩ := C0
  unfold kn_ast at hs
  split at hs
  · rename_i x i a r
    split at hs
    · rename_i ty n f hat
      cases hbq : Nat.beq (kn_tc ty) 0 with
      | false => rw [hbq] at hs; cases hs
      | true =>
        rw [hbq] at hs
        dsimp only [cond_true] at hs
        split at hs
        · cases hs
        · rename_i hv
          cases hs
          have hty : ty = .int := by cases ty <;> first | rfl | cases hbq
          subst hty
          intro H locs ls hR hl
          obtain ⟨rr, rfl, hz, hP, hS⟩ := id hR
          have hat' : kn_at rr a = some (.inl (.int, n, .inl f)) := hat
          exact va_iast hx hb hK hP (kn_w_D (kn_e cA b base) rr base) hS a 0 (kn_w_get hat') rfl hv hd (fun H1 locs1 hP1 _ hS1 => hk H1 locs1 ls (kn_rel_set hz hP1 hS1) hl)
    · cases hs
  · cases hs
theorem kn_W_last (C0 : kn_Ctx cl Tg Ns b base L xs cA D M p R s m args meth c) (hd : decode M.2.1 pc = .ok (.lastore, 1))
    (hs : kn_last (pc + 1) lo st h = some (.inl (f1, h1, k, z))) (hk : kn_Nx cl b base L xs cA D nL p l e R s m args below meth c Q f1 h1 (k0 + k) (z0 + z)) : kn_Nx cl b base L xs cA D nL p l e R s m args below meth c Q (pc, lo, st) h k0 z0 := by
  obtain ⟨hx, hb, hr, hml, hown, hts, hns, hlk, hnm, hK, hX, hbb, hbs, hfr, hlc⟩ := C0
  unfold kn_last at hs
  split at hs
  · rename_i x i a r
    split at hs
    · rename_i ty n f hat
      cases hbq : Nat.beq (kn_tc ty) 1 with
      | false => rw [hbq] at hs; cases hs
      | true =>
        rw [hbq] at hs
        dsimp only [cond_true] at hs
        split at hs
        · cases hs
        · rename_i hv
          cases hs
          have hty : ty = .long := by cases ty <;> first | rfl | cases hbq
          subst hty
          intro H locs ls hR hl
          obtain ⟨rr, rfl, hz, hP, hS⟩ := id hR
          have hat' : kn_at rr a = some (.inl (.long, n, .inr (.inl f))) := hat
          exact va_last hx hb hK hP (kn_w_D (kn_e cA b base) rr base) hS a 1 (kn_w_get hat') rfl hv hd (fun H1 locs1 hP1 _ hS1 => hk H1 locs1 ls (kn_rel_set hz hP1 hS1) hl)
    · cases hs
  · cases hs
theorem kn_W_bast (C0 : kn_Ctx cl Tg Ns b base L xs cA D M p R s m args meth c) (hd : decode M.2.1 pc = .ok (.bastore, 1))
    (hs : kn_bast (pc + 1) lo st h = some (.inl (f1, h1, k, z))) (hk : kn_Nx cl b base L xs cA D nL p l e R s m args below meth c Q f1 h1 (k0 + k) (z0 + z)) : kn_Nx cl b base L xs cA D nL p l e R s m args below meth c Q (pc, lo, st) h k0 z0 := by
  obtain ⟨hx, hb, hr, hml, hown, hts, hns, hlk, hnm, hK, hX, hbb, hbs, hfr, hlc⟩ := C0
  unfold kn_bast at hs
  split at hs
  · rename_i x i a r
    split at hs
    · rename_i ty n f hat
      cases hbq : Nat.beq (kn_tc ty) 2 with
      | false => rw [hbq] at hs; cases hs
      | true =>
        rw [hbq] at hs
        dsimp only [cond_true] at hs
        split at hs
        · cases hs
        · rename_i hv
          cases hs
          have hty : ty = .boolean := by cases ty <;> first | rfl | cases hbq
          subst hty
          intro H locs ls hR hl
          obtain ⟨rr, rfl, hz, hP, hS⟩ := id hR
          have hat' : kn_at rr a = some (.inl (.boolean, n, .inl f)) := hat
          exact va_zast hx hb hK hP (kn_w_D (kn_e cA b base) rr base) hS a 2 (kn_w_get hat') rfl hv hd (fun H1 locs1 hP1 _ hS1 => hk H1 locs1 ls (kn_rel_set hz hP1 hS1) hl)
    · cases hs
  · cases hs
theorem kn_tys_at {ty : FieldType} (h : Nat.ble (kn_tc ty) 2 = true) : ∃ t : Nat, (kn_tys cA)[t]? = some (cA ty, ty) := by
  cases ty <;> first | exact ⟨0, rfl⟩ | exact ⟨1, rfl⟩ | exact ⟨2, rfl⟩ | cases h
theorem kn_W_len (C0 : kn_Ctx cl Tg Ns b base L xs cA D M p R s m args meth c) (hd : decode M.2.1 pc = .ok (.arraylength, 1))
    (hs : kn_len (pc + 1) lo st h = some (.inl (f1, h1, k, z))) (hk : kn_Nx cl b base L xs cA D nL p l e R s m args below meth c Q f1 h1 (k0 + k) (z0 + z)) : kn_Nx cl b base L xs cA D nL p l e R s m args below meth c Q (pc, lo, st) h k0 z0 := by
  obtain ⟨hx, hb, hr, hml, hown, hts, hns, hlk, hnm, hK, hX, hbb, hbs, hfr, hlc⟩ := C0
  unfold kn_len at hs
  split at hs
  · rename_i a r
    split at hs
    · rename_i ty n f hat
      cases hbq : Nat.ble (kn_tc ty) 2 with
      | false => rw [hbq] at hs; cases hs
      | true =>
        rw [hbq] at hs
        cases hs
        intro H locs ls hR hl
        obtain ⟨rr, rfl, hz, hP, hS⟩ := id hR
        cases a with
        | zero =>
          cases hat
          exact va_slen hx hb hX (Nat.lt_of_lt_of_le hbb hbs) (Nat.not_le.mpr hbb) hS hd (hk H locs ls hR hl)
        | succ a =>
          have hat' : kn_at rr a = some (.inl (ty, n, f)) := hat
          obtain ⟨t, ht⟩ := kn_tys_at (cA := cA) hbq
          exact va_alen hx hb hK hP a t (kn_w_get hat') ht rfl hd (hk H locs ls hR hl)
    · cases hs
  · cases hs
/-- a cell more: it lies behind all others -/
theorem kn_newest {rr : kn_H} {q : Nat} {x : va_E} {H1 : Heap} {E : kn_C → va_E} (hP : va_P D cl (kn_w E base rr ++ [(q, x)]) H1) (hD : va_D (fun q => base ≤ q) (kn_w E base rr ++ [(q, x)])) (hz : H1.size ≤ base + rr.length + 1) : q = base + rr.length := by
  have hlast : (kn_w E base rr ++ [(q, x)])[rr.length]? = some (q, x) := by
    rw [List.getElem?_append_right (by rw [kn_w_len]; exact Nat.le_refl _), kn_w_len, Nat.sub_self]; rfl
  have h1 : q < H1.size := (hP _ _ hlast).lt
  have h2 : base ≤ q := hD.2 _ _ hlast
  rcases Nat.lt_or_ge (q - base) rr.length with hlt | hge
  · exfalso
    have hs : ∃ y, kn_at rr (q - base) = some y := by
      rw [kn_at_eq]
      exact ⟨_, List.getElem?_eq_getElem hlt⟩
    obtain ⟨y, hy⟩ := hs
    have hi : (kn_w E base rr ++ [(q, x)])[q - base]? = some (base + (q - base), E y) := by
      rw [List.getElem?_append_left (by rw [kn_w_len]; exact hlt)]
      exact kn_w_get hy
    have := hD.1 _ _ _ _ hi hlast (by show base + (q - base) = q; omega)
    omega
  · omega
theorem kn_dv_ok {ty : FieldType} (h : kn_tc ty ≠ 9) : defaultValue ty = kn_dv (kn_tc ty) := by
  cases ty <;> first | rfl | exact absurd rfl h
theorem kn_W_new {ci idx N : Nat} {tcs : List Nat} {C : String} {F : u_T} (C0 : kn_Ctx cl Tg Ns b base L xs cA D M p R s m args meth c) (hc : cl[ci]? = some (C, F, N)) (hin : ∀ w ∈ u_ws C F N, w ∈ Tg)
    (ty0 : Nat → FieldType) (hty : ∀ k, k < N → parseFieldDescriptor (F k).2.2.1 = some (ty0 k)) (htl : tcs.length = N) (htc : ∀ j, j < N → kn_tc (ty0 j) ≠ 9 ∧ tcs.getD j 9 = kn_tc (ty0 j))
    (hw1 : Cond.classLink M.1.cls idx C ∈ Tg) (hw2 : Cond.instantiable C N ∈ Tg) (hw3 : Cond.initialized C ∈ Tg) (hd : decode M.2.1 pc = .ok (.new idx, 3))
    (hs : kn_new (pc + 3) (ci :: N :: tcs) lo st h = some (.inl (f1, h1, k, z))) (hcells : k0 + k ≤ R.cells) (hslots : z0 + z ≤ R.slots) (hk : kn_Nx cl b base L xs cA D nL p l e R s m args below meth c Q f1 h1 (k0 + k) (z0 + z)) : kn_Nx cl b base L xs cA D nL p l e R s m args below meth c Q (pc, lo, st) h k0 z0 := by
  obtain ⟨hx, hb, hr, hml, hown, hts, hns, hlk, hnm, hK, hX, hbb, hbs, hfr, hlc⟩ := C0
  cases hs
  intro H locs ls hR hl
  obtain ⟨rr, rfl, hz, hP, hS⟩ := id hR
  refine va_new (fs := (tcs.map kn_dv).map (kn_v b base)) hx hb hts hin ty0 hty hown (hts _ hw1) (hts _ hw2) (hts _ hw3) hK hP (kn_w_D (kn_e cA b base) rr base) hS (fun q hq => Nat.le_trans hbs hq) hc ?_ hcells hslots hd (fun q H1 hP1 hD1 hS1 => ?_)
  · intro j hj
    obtain ⟨g1, g2⟩ := htc j hj
    rw [kn_dv_ok g1, ← g2]
    have hjl : j < tcs.length := by rw [htl]; exact hj
    simp only [vp_V, List.getD_eq_getElem?_getD, List.getElem?_map, List.getElem?_eq_getElem hjl, Option.map_some, Option.getD_some]
    generalize tcs[j] = t
    unfold kn_dv
    split <;> rfl
  · refine kn_bound (fun hle => ?_)
    have hq : q = base + rr.length := kn_newest hP1 hD1 (by omega)
    subst hq
    have hg := hk H1 locs ls ⟨rr ++ [.inr (ci, tcs.map kn_dv)], rfl, by rw [List.length_append, ← Nat.add_assoc, hz]; rfl, by rw [kn_w_app]; exact hP1, hS1⟩ hl
    exact hg
theorem kn_W_newa {t : ArrayType} (C0 : kn_Ctx cl Tg Ns b base L xs cA D M p R s m args meth c) (hw : Cond.arrayClass (newarray.typeOf t) ∈ Tg) (hd : decode M.2.1 pc = .ok (.newarray t, 2))
    (hs : kn_newa t (pc + 2) lo st h = some (.inl (f1, h1, k, z))) (hcells : k0 + k ≤ R.cells) (hslots : z0 + z ≤ R.slots) (hk : kn_Nx cl b base L xs cA D nL p l e R s m args below meth c Q f1 h1 (k0 + k) (z0 + z)) : kn_Nx cl b base L xs cA D nL p l e R s m args below meth c Q (pc, lo, st) h k0 z0 := by
  obtain ⟨hx, hb, hr, hml, hown, hts, hns, hlk, hnm, hK, hX, hbb, hbs, hfr, hlc⟩ := C0
  unfold kn_newa at hs
  split at hs
  · rename_i n r
    split at hs
    · cases hs
    · rename_i hn
      have hn1 : ¬ n < 0 := fun q => hn (Or.inl q)
      have hn2 : n.toNatClampNeg ≤ 1000000 := Nat.not_lt.mp (fun q => hn (Or.inr q))
      have key : ∀ (ty : FieldType) (tix : Nat) (a0 : vp_A), newarray.typeOf t = ty → (kn_tys cA)[tix]? = some (cA ty, ty) → va_RA s (cA ty) ty = (s.vm.findClass ("[" ++ ty.toString) = some (cA ty)) → (∀ x, va_RA s x ty = (s.vm.findClass ("[" ++ ty.toString) = some x)) → (∀ x : ClassId, vp_cell x a0 = arrV x n.toNatClampNeg (fun _ => defaultValue ty)) → componentBytes ty ≤ 8 →
          f1 = (pc + 2, lo, .ref h.length :: r) → h1 = h ++ [.inl (ty, a0)] → k = 1 → z = n.toNatClampNeg → kn_Nx cl b base L xs cA D nL p l e R s m args below meth c Q (pc, lo, .int n :: r) h k0 z0 := by
        intro ty tix a0 hty htx _ hra ha0 hcb e1 e2 e3 e4
        subst e1 e2 e3 e4
        intro H locs ls hR hl
        obtain ⟨rr, rfl, hz, hP, hS⟩ := id hR
        refine va_newa hx hb (hts _ hw) hty hK hP (kn_w_D (kn_e cA b base) rr base) hS (fun q hq => Nat.le_trans hbs hq) ha0 hn1 rfl (Nat.le_trans (Nat.mul_le_mul hn2 hcb) (by decide)) hcells hslots hd (fun q cx H1 hK1 hP1 hD1 hS1 => ?_)
        refine kn_bound (fun hle => ?_)
        have hq : q = base + rr.length := kn_newest hP1 hD1 (by omega)
        have h5 := (hK.2 tix _ htx).2
        have h6 : va_RA s cx ty := (hK1.2 (kn_tys cA).length (cx, ty) (by rw [List.getElem?_append_right (Nat.le_refl _), Nat.sub_self]; rfl)).2
        rw [hra] at h5 h6
        have hcx : cx = cA ty := Option.some.inj (h6.symm.trans h5)
        subst hq hcx
        have hg := hk H1 locs ls ⟨rr ++ [.inl (ty, a0)], rfl, by rw [List.length_append, ← Nat.add_assoc, hz]; rfl, by rw [kn_w_app]; exact hP1, hS1⟩ hl
        exact hg
      cases t <;> first | (cases hs; done) | skip
      · cases hs
        exact key .boolean 2 (n.toNatClampNeg, .inl (fun _ => 0)) rfl rfl rfl (fun _ => rfl) (fun _ => rfl) (by decide) rfl rfl rfl rfl
      · cases hs
        exact key .int 0 (n.toNatClampNeg, .inl (fun _ => 0)) rfl rfl rfl (fun _ => rfl) (fun _ => rfl) (by decide) rfl rfl rfl rfl
      · cases hs
        exact key .long 1 (n.toNatClampNeg, .inr (.inl (fun _ => 0))) rfl rfl rfl (fun _ => rfl) (fun _ => rfl) (by decide) rfl rfl rfl rfl
  · cases hs
theorem kn_W_copy {idx : Nat} (C0 : kn_Ctx cl Tg Ns b base L xs cA D M p R s m args meth c) (hw1 : Cond.methodLink M.1.cls idx arraycopyName ∈ Tg) (hw2 : Cond.native arraycopyName ∈ Tg) (hw3 : Cond.static arraycopyName ∈ Tg) (hw4 : Cond.initialized "java/lang/System" ∈ Tg) (hfr1 : 1 ≤ M.2.2.2.2.1.1) (hlc1 : 8 + (nativeFrameWords "java/lang/System" "arraycopy" 5 + 11) ≤ M.2.2.2.2.1.2) (hnL : nL = M.2.2.1) (hd : decode M.2.1 pc = .ok (.invokestatic idx, 3))
    (hs : kn_copy (pc + 3) lo st h = some (.inl (f1, h1, k, z))) (hk : kn_Nx cl b base L xs cA D nL p l e R s m args below meth c Q f1 h1 (k0 + k) (z0 + z)) : kn_Nx cl b base L xs cA D nL p l e R s m args below meth c Q (pc, lo, st) h k0 z0 := by
  obtain ⟨hx, hb, hr, hml, hown, hts, hns, hlk, hnm, hK, hX, hbb, hbs, hfr, hlc⟩ := C0
  unfold kn_copy at hs
  split at hs
  · rename_i n dp a sp b' r
    split at hs
    · rename_i t0 n0 f t1 n1 g hb0 ha0
      cases hbq : Nat.beq (kn_tc t0) 0 && (Nat.beq (kn_tc t1) 0 && Nat.ble (kn_cat r) 8) with
      | false => rw [hbq] at hs; cases hs
      | true =>
        rw [hbq] at hs
        dsimp only [cond_true] at hs
        obtain ⟨q1, q2⟩ := Bool.and_eq_true_iff.mp hbq
        obtain ⟨q2, q3⟩ := Bool.and_eq_true_iff.mp q2
        have e0 : t0 = .int := by cases t0 <;> first | rfl | cases q1
        have e1 : t1 = .int := by cases t1 <;> first | rfl | cases q2
        subst e0 e1
        split at hs
        · cases hs
        · rename_i hn
          cases hs
          intro H locs ls hR hl
          obtain ⟨rr, rfl, hz, hP, hS⟩ := id hR
          have hb' : kn_at rr b' = some (.inl (.int, n0, .inl f)) := hb0
          have ha' : kn_at rr a = some (.inl (.int, n1, .inl g)) := ha0
          have h8 : kn_cat r ≤ 8 := Nat.le_of_ble_eq_true q3
          refine va_copyi hx hb (hml.trans (hnL ▸ hl.1).symm) hown (hts _ hw1) (hts _ hw2) (hts _ hw3) (hts _ hw4) hK hP (kn_w_D (kn_e cA b base) rr base) hS b' a 0 0 (kn_w_get hb') (kn_w_get ha') rfl rfl rfl (fun q => hn (Or.inl q)) (fun q => hn (Or.inr (Or.inl q))) (fun q => hn (Or.inr (Or.inr (Or.inl q)))) (Nat.not_lt.mp (fun q => hn (Or.inr (Or.inr (Or.inr (Or.inl q)))))) (Nat.not_lt.mp (fun q => hn (Or.inr (Or.inr (Or.inr (Or.inr q)))))) (fun _ _ => rfl) (Nat.le_trans hfr1 hfr) ?_ hd (fun H1 locs1 hP1 _ hS1 => hk H1 locs1 ls (kn_rel_set hz hP1 hS1) hl)
          rw [kn_cat_map]
          exact Nat.le_trans (Nat.add_le_add_right h8 _) (Nat.le_trans hlc1 hlc)
    · rename_i t0 n0 f t1 n1 g hb0 ha0
      cases hbq : Nat.beq (kn_tc t0) 1 && (Nat.beq (kn_tc t1) 1 && Nat.ble (kn_cat r) 8) with
      | false => rw [hbq] at hs; cases hs
      | true =>
        rw [hbq] at hs
        dsimp only [cond_true] at hs
        obtain ⟨q1, q2⟩ := Bool.and_eq_true_iff.mp hbq
        obtain ⟨q2, q3⟩ := Bool.and_eq_true_iff.mp q2
        have e0 : t0 = .long := by cases t0 <;> first | rfl | cases q1
        have e1 : t1 = .long := by cases t1 <;> first | rfl | cases q2
        subst e0 e1
        split at hs
        · cases hs
        · rename_i hn
          cases hs
          intro H locs ls hR hl
          obtain ⟨rr, rfl, hz, hP, hS⟩ := id hR
          have hb' : kn_at rr b' = some (.inl (.long, n0, .inr (.inl f))) := hb0
          have ha' : kn_at rr a = some (.inl (.long, n1, .inr (.inl g))) := ha0
          have h8 : kn_cat r ≤ 8 := Nat.le_of_ble_eq_true q3
          refine va_copyl hx hb (hml.trans (hnL ▸ hl.1).symm) hown (hts _ hw1) (hts _ hw2) (hts _ hw3) (hts _ hw4) hK hP (kn_w_D (kn_e cA b base) rr base) hS b' a 1 1 (kn_w_get hb') (kn_w_get ha') rfl rfl rfl (fun q => hn (Or.inl q)) (fun q => hn (Or.inr (Or.inl q))) (fun q => hn (Or.inr (Or.inr (Or.inl q)))) (Nat.not_lt.mp (fun q => hn (Or.inr (Or.inr (Or.inr (Or.inl q)))))) (Nat.not_lt.mp (fun q => hn (Or.inr (Or.inr (Or.inr (Or.inr q)))))) (fun _ _ => rfl) (Nat.le_trans hfr1 hfr) ?_ hd (fun H1 locs1 hP1 _ hS1 => hk H1 locs1 ls (kn_rel_set hz hP1 hS1) hl)
          rw [kn_cat_map]
          exact Nat.le_trans (Nat.add_le_add_right h8 _) (Nat.le_trans hlc1 hlc)
    · cases hs
  · cases hs
theorem kn_W_obj {idx : Nat} (C0 : kn_Ctx cl Tg Ns b base L xs cA D M p R s m args meth c) (hw1 : Cond.methodLink M.1.cls idx Lib.objectInit ∈ Tg) (hw2 : Cond.instanceMethod Lib.objectInit ∈ Tg) (hw3 : Cond.code Lib.objectInit ⟨#[0xb1]⟩ 1 none ∈ Tg) (hfr1 : 1 ≤ M.2.2.2.2.1.1) (hlc1 : 20 ≤ M.2.2.2.2.1.2) (hnL : nL = M.2.2.1) (hd : decode M.2.1 pc = .ok (.invokespecial idx, 3))
    (hs : kn_ci (pc + 3) [] lo st h = some (.inl (f1, h1, k, z))) (hk : kn_Nx cl b base L xs cA D nL p l e R s m args below meth c Q f1 h1 (k0 + k) (z0 + z)) : kn_Nx cl b base L xs cA D nL p l e R s m args below meth c Q (pc, lo, st) h k0 z0 := by
  obtain ⟨hx, hb, hr, hml, hown, hts, hns, hlk, hnm, hK, hX, hbb, hbs, hfr, hlc⟩ := C0
  unfold kn_ci at hs
  dsimp only at hs
  split at hs
  · rename_i a r
    cases hbq : Nat.ble (kn_cat r) 8 with
    | false => rw [hbq] at hs; cases hs
    | true =>
      rw [hbq] at hs
      cases hs
      intro H locs ls hR hl
      have h8 : kn_cat r ≤ 8 := Nat.le_of_ble_eq_true hbq
      refine W.objInit (g := F0 m pc ls (.ref (kn_ad b base a) :: r.map (kn_v b base))) hx hb hown (hts _ hw1) (hts _ hw2) (hts _ hw3) rfl (by rw [hml, ← hnL]; exact hl.1) rfl hd (Nat.le_trans hfr1 hfr) ?_ (hk H locs ls hR hl)
      rw [kn_cat_map]
      have h0 : (F0 m pc ls (.ref (kn_ad b base a) :: r.map (kn_v b base))).monitorRoom = 0 := rfl
      rw [h0]
      omega
  · cases hs
theorem kn_W_tab {dflt lo1 hi1 : Int} {offs : Array Int} {len t : Nat} {ts : List Nat} (C0 : kn_Ctx cl Tg Ns b base L xs cA D M p R s m args meth c) (hd : decode M.2.1 pc = .ok (.tableswitch dflt lo1 hi1 offs, len)) (ht : (pc : Int) + dflt = (t : Int)) (hts2 : offs.toList.map (fun o => (pc : Int) + o) = ts.map (fun x : Nat => (x : Int)))
    (hs : kn_tab lo1 hi1 (t :: ts) lo st h = some (.inl (f1, h1, k, z))) (hk : kn_Nx cl b base L xs cA D nL p l e R s m args below meth c Q f1 h1 (k0 + k) (z0 + z)) : kn_Nx cl b base L xs cA D nL p l e R s m args below meth c Q (pc, lo, st) h k0 z0 := by
  obtain ⟨hx, hb, hr, hml, hown, hts, hns, hlk, hnm, hK, hX, hbb, hbs, hfr, hlc⟩ := C0
  unfold kn_tab at hs
  split at hs
  · rename_i x r d ts' he
    obtain ⟨rfl, rfl⟩ : t = d ∧ ts = ts' := by simpa using he
    split at hs
    · rename_i ho
      cases hs
      intro H locs ls hR hl
      exact lv_tableOut hx hb hd ho ht (hk H locs ls hR hl)
    · rename_i ho
      split at hs
      · rename_i tg htg
        cases hs
        intro H locs ls hR hl
        have h5 : (offs.toList.map (fun o => (pc : Int) + o))[(x.toInt - lo1).toNat]? = some (tg : Int) := by
          rw [hts2, List.getElem?_map, ← kn_at_eq, htg]; rfl
        rw [List.getElem?_map] at h5
        cases h6 : offs.toList[(x.toInt - lo1).toNat]? with
        | none => rw [h6] at h5; cases h5
        | some off =>
          rw [h6] at h5
          have h7 : (pc : Int) + off = (tg : Int) := Option.some.inj h5
          exact lv_tableIn hx hb hd (fun q => ho (Or.inl q)) (fun q => ho (Or.inr q)) (by rw [← Array.getElem?_toList]; exact h6) h7 (hk H locs ls hR hl)
      · cases hs
  · cases hs
end KNS2
end
section
/-! what is looked up of an instruction, once for each -/
def kn_ln (e : kn_I) : Nat := match e.1 with
  | .tableswitch .. => e.2.1
  | .bipush _ => 2
  | .iload _ => 2
  | .lload _ => 2
  | .aload _ => 2
  | .istore _ => 2
  | .lstore _ => 2
  | .astore _ => 2
  | .ldc _ => 2
  | .newarray _ => 2
  | .sipush _ => 3
  | .ldc_w _ => 3
  | .ldc2_w _ => 3
  | .iinc .. => 3
  | .ifCond .. => 3
  | .if_icmp .. => 3
  | .ifnull _ => 3
  | .ifnonnull _ => 3
  | .goto _ => 3
  | .getfield _ => 3
  | .putfield _ => 3
  | .new _ => 3
  | .invokevirtual _ => 3
  | .invokespecial _ => 3
  | .invokestatic _ => 3
  | _ => 1
/-- a word stands at a place of the tables, and is one that stays -/
def kn_w1 (Ts : List Cond) (i : Nat) (w : Cond) : Bool := decide (kn_at Ts i = some w) && goodWord w
/-- a call's link, by its own name or by the nest -/
def kn_lk (Ts Ns : List Cond) (own : String) (idx : Nat) (y : MethodName) (nest i : Nat) (ho : String) : Bool := match nest with
  | 0 => kn_w1 Ts i (.methodLink own idx y)
  | _ => decide (kn_at Ns i = some (.methodLinkNest own idx y ho))
def kn_cc (M M1 : kn_M) (n nL : Nat) : Bool := Nat.ble (M1.2.2.2.2.1.1 + 1) M.2.2.2.2.1.1 && (Nat.ble (8 + (M1.2.2.1 + 11) + M1.2.2.2.2.1.2) M.2.2.2.2.1.2 && (Nat.beq nL M1.2.2.1 && (decide (M1.1.cls ≠ "java/lang/invoke/MethodHandle") && (decide (M1.1.cls ≠ "java/lang/invoke/VarHandle") && decide ((parseMethodDescriptor M1.1.desc).map (fun d => d.parameters.length) = some n)))))
def kn_ckF (cl : List vw_C) (Ts : List Cond) (own : String) (idx : Nat) (aux pl : List Nat) : Bool := match aux, pl with
  | ci :: k :: _, i :: _ => match kn_at cl ci with
    | some q => Nat.ble (k + 1) q.2.2 && kn_w1 Ts i (.fieldLink own idx (q.2.1 k).1 (q.2.1 k).2.1 (q.2.1 k).2.2.1)
    | none => false
  | _, _ => false
def kn_ckP (cl : List vw_C) (Ts : List Cond) (y : MethodName) (idx : Nat) (aux pl : List Nat) : Bool := match aux, pl with
  | ci :: k :: tc :: _, i :: _ => match kn_at cl ci with
    | some q => Nat.ble (k + 1) q.2.2 && (kn_w1 Ts i (.fieldLink y.cls idx (q.2.1 k).1 (q.2.1 k).2.1 (q.2.1 k).2.2.1) && ((match parseFieldDescriptor (q.2.1 k).2.2.1 with
      | some ty => Nat.beq (kn_tc ty) tc
      | none => false) && (!(q.2.1 k).2.2.2 || (decide (y.name = "<init>") && decide ((q.2.1 k).1 = y.cls)))))
    | none => false
  | _, _ => false
def kn_ckN (cl : List vw_C) (Ts : List Cond) (own : String) (idx : Nat) (aux pl : List Nat) : Bool := match aux, pl with
  | ci :: N :: tcs, i1 :: i2 :: i3 :: _ => match kn_at cl ci with
    | some q => Nat.beq q.2.2 N && (Nat.beq tcs.length N && ((List.range N).all (fun j => match parseFieldDescriptor (q.2.1 j).2.2.1 with
      | some ty => !(Nat.beq (kn_tc ty) 9) && Nat.beq (tcs.getD j 9) (kn_tc ty)
      | none => false) && (kn_w1 Ts i1 (.classLink own idx q.1) && (kn_w1 Ts i2 (.instantiable q.1 q.2.2) && kn_w1 Ts i3 (.initialized q.1)))))
    | none => false
  | _, _ => false
/-- aux: method, arguments, class, locals, nest; places: link, initialized, instance or static, selects -/
def kn_ckV (cl : List vw_C) (Ts Ns : List Cond) (T : List kn_M) (M : kn_M) (idx : Nat) (aux pl : List Nat) : Bool := match aux, pl with
  | j :: n :: ci :: nL :: ne :: _, i1 :: i2 :: i3 :: i4 :: _ => match kn_at T j, kn_at cl ci with
    | some M1, some q => kn_cc M M1 n nL && (decide (q.1 = M1.1.cls) && (kn_lk Ts Ns M.1.cls idx M1.1 ne i1 "KnotLaw" && (kn_w1 Ts i2 (.initialized M1.1.cls) && (kn_w1 Ts i3 (.instanceMethod M1.1) && kn_w1 Ts i4 (.selects M1.1.cls M1.1 M1.1)))))
    | _, _ => false
  | _, _ => false
def kn_ckI (cl : List vw_C) (Ts Ns : List Cond) (T : List kn_M) (M : kn_M) (idx : Nat) (aux pl : List Nat) : Bool := match aux, pl with
  | [], i1 :: i2 :: _ => kn_w1 Ts i1 (.methodLink M.1.cls idx Lib.objectInit) && (kn_w1 Ts i2 (.instanceMethod Lib.objectInit) && (Nat.ble 1 M.2.2.2.2.1.1 && Nat.ble 20 M.2.2.2.2.1.2))
  | j :: n :: _ :: nL :: ne :: _, i1 :: i2 :: i3 :: _ => match kn_at T j with
    | some M1 => kn_cc M M1 n nL && (decide (M1.1.name = "<init>") && (decide (M1.2.2.2.1 = none) && (kn_lk Ts Ns M.1.cls idx M1.1 ne i1 "KnotLaw" && (kn_w1 Ts i2 (.initialized M1.1.cls) && kn_w1 Ts i3 (.instanceMethod M1.1)))))
    | _ => false
  | _, _ => false
def kn_ckS (Ts Ns : List Cond) (T : List kn_M) (M : kn_M) (idx : Nat) (aux pl : List Nat) : Bool := match aux, pl with
  | [], i1 :: i2 :: i3 :: i4 :: _ => kn_w1 Ts i1 (.methodLink M.1.cls idx arraycopyName) && (kn_w1 Ts i2 (.native arraycopyName) && (kn_w1 Ts i3 (.static arraycopyName) && (kn_w1 Ts i4 (.initialized "java/lang/System") && (Nat.ble 1 M.2.2.2.2.1.1 && Nat.ble (8 + (nativeFrameWords "java/lang/System" "arraycopy" 5 + 11)) M.2.2.2.2.1.2))))
  | j :: n :: _ :: nL :: ne :: _, i1 :: i2 :: i3 :: _ => match kn_at T j with
    | some M1 => kn_cc M M1 n nL && (kn_lk Ts Ns M.1.cls idx M1.1 ne i1 "KnotLaw" && (kn_w1 Ts i2 (.initialized M1.1.cls) && kn_w1 Ts i3 (.static M1.1)))
    | _ => false
  | _, _ => false
def kn_ok (cl : List vw_C) (Ts Ns : List Cond) (T : List kn_M) (M : kn_M) (pc : Nat) (e : kn_I) : Bool := decide (decode M.2.1 pc = .ok (e.1, kn_ln e)) && (match e.1 with
  | .ldc idx => kn_w1 Ts (kn_hd e.2.2.2) (.constant M.1.cls idx (Int32.ofNat (kn_hd e.2.2.1)))
  | .ldc_w idx => kn_w1 Ts (kn_hd e.2.2.2) (.constant M.1.cls idx (Int32.ofNat (kn_hd e.2.2.1)))
  | .ldc2_w idx => kn_w1 Ts (kn_hd e.2.2.2) (.constantLong M.1.cls idx (Int64.ofNat (kn_hd e.2.2.1)))
  | .ifCond _ off => decide ((pc : Int) + off = (kn_hd e.2.2.1 : Int))
  | .if_icmp _ off => decide ((pc : Int) + off = (kn_hd e.2.2.1 : Int))
  | .ifnull off => decide ((pc : Int) + off = (kn_hd e.2.2.1 : Int))
  | .ifnonnull off => decide ((pc : Int) + off = (kn_hd e.2.2.1 : Int))
  | .goto off => decide ((pc : Int) + off = (kn_hd e.2.2.1 : Int))
  | .tableswitch dflt _ _ offs => match e.2.2.1 with
    | d :: ts => decide ((pc : Int) + dflt = (d : Int)) && decide (offs.toList.map (fun o => (pc : Int) + o) = ts.map (fun t : Nat => (t : Int)))
    | [] => false
  | .getfield idx => kn_ckF cl Ts M.1.cls idx e.2.2.1 e.2.2.2
  | .putfield idx => kn_ckP cl Ts M.1 idx e.2.2.1 e.2.2.2
  | .new idx => kn_ckN cl Ts M.1.cls idx e.2.2.1 e.2.2.2
  | .newarray t => kn_w1 Ts (kn_hd e.2.2.2) (.arrayClass (newarray.typeOf t))
  | .invokevirtual idx => kn_ckV cl Ts Ns T M idx e.2.2.1 e.2.2.2
  | .invokespecial idx => kn_ckI cl Ts Ns T M idx e.2.2.1 e.2.2.2
  | .invokestatic idx => kn_ckS Ts Ns T M idx e.2.2.1 e.2.2.2
  | _ => true)
/-- all of a method -/
def kn_okM (cl : List vw_C) (Ts Ns : List Cond) (T : List kn_M) (M : kn_M) : Bool := M.2.2.2.2.2.zipIdx.all (fun x => x.1.zipIdx.all (fun y => match y.1 with
  | some e => kn_ok cl Ts Ns T M (16 * x.2 + y.2) e
  | none => true))
theorem kn_okM_at {cl : List vw_C} {Ts Ns : List Cond} {T : List kn_M} {M : kn_M} (h : kn_okM cl Ts Ns T M = true) {pc : Nat} {e : kn_I} (he : kn_code M pc = some e) : kn_ok cl Ts Ns T M pc e = true := by
  unfold kn_code at he
  split at he
  · rename_i ch hch
    split at he
    · rename_i e' he'
      subst he
      rw [kn_at_eq] at hch he'
      have h1 := List.all_eq_true.mp h (ch, pc / 16) (by
        rw [List.mem_zipIdx_iff_getElem?]; exact hch)
      have h2 := List.all_eq_true.mp h1 (some e, pc % 16) (by
        rw [List.mem_zipIdx_iff_getElem?]; exact he')
      have h3 : 16 * (pc / 16) + pc % 16 = pc := Nat.div_add_mod pc 16
      simp only [h3] at h2
      exact h2
    · cases he
  · cases he
/-- what holds of the tables, whatever the state -/
def kn_St (cl : List vw_C) (Ts Tg Ns : List Cond) (T : List kn_M) : Prop :=
  (∀ w, w ∈ Ts → goodWord w = true → w ∈ Tg) ∧ (∀ (j : Nat) (M1 : kn_M), kn_at T j = some M1 → Cond.code M1.1 M1.2.1 M1.2.2.1 M1.2.2.2.1 ∈ Tg ∧ plainName M1.1.cls = true ∧ kn_okM cl Ts Ns T M1 = true) ∧ Cond.code Lib.objectInit ⟨#[0xb1]⟩ 1 none ∈ Tg ∧
  (∀ w ∈ Tg, (w.onTables && w.keeps) = true ∨ ∃ ty, w = .arrayClass ty) ∧ (∀ (ci : Nat) (q : vw_C), cl[ci]? = some q → (∀ w ∈ u_ws q.1 q.2.1 q.2.2, w ∈ Tg) ∧ (∃ ty0 : Nat → FieldType, ∀ k, k < q.2.2 → parseFieldDescriptor (q.2.1 k).2.2.1 = some (ty0 k)) ∧ (∀ a, a < q.2.2 → ∀ b, b < q.2.2 → a ≠ b → (q.2.1 a).2.1 ≠ (q.2.1 b).2.1)) ∧
  (∀ w ∈ Ns, ∃ (a : String) (i : Nat) (x : MethodName) (h : String), w = .methodLinkNest a i x h)
theorem kn_w1_in {cl : List vw_C} {Ts Tg Ns : List Cond} {T : List kn_M} (S : kn_St cl Ts Tg Ns T) {i : Nat} {w : Cond} (h : kn_w1 Ts i w = true) : w ∈ Tg := by
  obtain ⟨h1, h2⟩ := Bool.and_eq_true_iff.mp h
  have h3 := of_decide_eq_true h1
  rw [kn_at_eq] at h3
  exact S.1 w (List.mem_of_getElem? h3) h2
/-- of a long method, by sixteens of pcs -/
def kn_okC (cl : List vw_C) (Ts Ns : List Cond) (T : List kn_M) (M : kn_M) (i : Nat) : Bool := match kn_at M.2.2.2.2.2 i with
  | some ch => ch.zipIdx.all (fun y => match y.1 with
    | some e => kn_ok cl Ts Ns T M (16 * i + y.2) e
    | none => true)
  | none => true
theorem kn_okM_of {cl : List vw_C} {Ts Ns : List Cond} {T : List kn_M} {M : kn_M} (n : Nat) (hl : M.2.2.2.2.2.length ≤ n) (h : ∀ i, i < n → kn_okC cl Ts Ns T M i = true) : kn_okM cl Ts Ns T M = true := by
  refine List.all_eq_true.mpr (fun x hx => ?_)
  obtain ⟨ch, i⟩ := x
  have hi : M.2.2.2.2.2[i]? = some ch := List.mem_zipIdx_iff_getElem?.mp hx
  have hlt : i < M.2.2.2.2.2.length := (List.getElem?_eq_some_iff.mp hi).1
  have h1 := h i (by omega)
  unfold kn_okC at h1
  rw [kn_at_eq, hi] at h1
  exact h1
end
section
section KNS3
variable {p : Program} {l : Launch} {e : Env} {R : Room} {s : State} {m : MethodId} {args : Array Value} {below : List Frame} {meth : Method} {c : Code} {Q : State → Prop} {k0 z0 : Nat}
variable {cl : List vw_C} {Ts Tg Ns : List Cond} {T : List kn_M} {b base L : Nat} {xs : Nat → Int32} {cA : FieldType → ClassId} {D : va_G} {M : kn_M} {pc : Nat} {lo : List (Nat × Value)} {st : List Value} {h : kn_H}
variable {f1 : kn_F} {h1 : kn_H} {k z : Nat}
/-- a step that stays in the method -/
theorem kn_go (S : kn_St cl Ts Tg Ns T) (C0 : kn_Ctx cl Tg Ns b base L xs cA D M p R s m args meth c) {i : kn_I} (hok : kn_ok cl Ts Ns T M pc i = true) (hs : kn_step M.2.2.1 M.2.2.2.1 i pc lo st h = some (.inl (f1, h1, k, z))) (hcells : k0 + k ≤ R.cells) (hslots : z0 + z ≤ R.slots)
    (hk : kn_Nx cl b base L xs cA D M.2.2.1 p l e R s m args below meth c Q f1 h1 (k0 + k) (z0 + z)) : kn_Nx cl b base L xs cA D M.2.2.1 p l e R s m args below meth c Q (pc, lo, st) h k0 z0 := by
  obtain ⟨ins, len, aux, pl⟩ := i
  obtain ⟨hd, ho⟩ := Bool.and_eq_true_iff.mp hok
  clear hok
  replace hd := of_decide_eq_true hd
  have hx := C0.1
  have hb := C0.2.1
  have hown := C0.2.2.2.2.1
  have hts := C0.2.2.2.2.2.1
  cases ins
  case iconst n => exact kn_W_to (fun hW => lv_iconst hx hb hd rfl hW) hs hk
  case bipush n => exact kn_W_to (fun hW => lv_bipush hx hb hd rfl hW) hs hk
  case sipush n => exact kn_W_to (fun hW => lv_sipush hx hb hd rfl hW) hs hk
  case lconst n => exact kn_W_to (fun hW => lv_lconst hx hb hd rfl hW) hs hk
  case ldc n => exact kn_W_to (fun hW => lv_ldc hx hb hown (hts _ (kn_w1_in S ho)) hd hW) hs hk
  case ldc_w n => exact kn_W_to (fun hW => lv_ldcw hx hb hown (hts _ (kn_w1_in S ho)) hd hW) hs hk
  case ldc2_w n => exact kn_W_to (fun hW => lv_ldc2 hx hb hown (hts _ (kn_w1_in S ho)) hd hW) hs hk
  case aconst_null => exact kn_W_to (fun hW => lv_null hx hb hd hW) hs hk
  case iload_n n => exact kn_W_ldi (fun hl hW => lv_iload_n hx hb hd rfl hl hW) hs hk
  case iload n => exact kn_W_ldi (fun hl hW => lv_iload hx hb hd hl hW) hs hk
  case lload_n n => exact kn_W_ldl (fun hl hW => lv_lload_n hx hb hd rfl hl hW) hs hk
  case lload n => exact kn_W_ldl (fun hl hW => lv_lload hx hb hd hl hW) hs hk
  case aload_n n => exact kn_W_lda (fun hl hW => lv_aload_n hx hb hd rfl hl hW) (fun hl hW => lv_aload_nN hx hb hd rfl hl hW) hs hk
  case aload n => exact kn_W_lda (fun hl hW => lv_aload hx hb hd hl hW) (fun hl hW => lv_aloadN hx hb hd hl hW) hs hk
  case istore_n n => exact kn_W_sti (fun hl hi hW => lv_istore_n hx hb hd rfl hl hi rfl hW) hs hk
  case istore n => exact kn_W_sti (fun hl hi hW => lv_istore hx hb hd hl hi rfl hW) hs hk
  case lstore_n n => exact kn_W_stl (fun hl hi hW => lv_lstore_n hx hb hd rfl hl hi rfl hW) hs hk
  case lstore n => exact kn_W_stl (fun hl hi hW => lv_lstore hx hb hd hl hi rfl hW) hs hk
  case astore_n n => exact kn_W_sta (fun hl hi hW => lv_astore_n hx hb hd rfl hl hi rfl hW) (fun hl hi hW => lv_astore_nN hx hb hd rfl hl hi rfl hW) hs hk
  case astore n => exact kn_W_sta (fun hl hi hW => lv_astore hx hb hd hl hi rfl hW) (fun hl hi hW => lv_astoreN hx hb hd hl hi rfl hW) hs hk
  case iinc i n => exact kn_W_inc (fun hl hj hi hW => lv_iinc hx hb hd hl hj rfl hi rfl hW) hs hk
  case iadd => exact kn_W_ii (fun hW => lv_iadd hx hb hd hW) hs hk
  case isub => exact kn_W_ii (fun hW => lv_isub hx hb hd hW) hs hk
  case imul => exact kn_W_ii (fun hW => lv_imul hx hb hd hW) hs hk
  case iand => exact kn_W_ii (fun hW => lv_iand hx hb hd hW) hs hk
  case ior => exact kn_W_ii (fun hW => lv_ior hx hb hd hW) hs hk
  case ixor => exact kn_W_ii (fun hW => lv_ixor hx hb hd hW) hs hk
  case ishl => exact kn_W_ii (fun hW => lv_ishl hx hb hd hW) hs hk
  case ishr => exact kn_W_ii (fun hW => lv_ishr hx hb hd hW) hs hk
  case iushr => exact kn_W_ii (fun hW => lv_iushr hx hb hd rfl hW) hs hk
  case idiv => exact kn_W_id (fun hn hW => lv_idiv hx hb hd hn hW) hs hk
  case irem => exact kn_W_id (fun hn hW => lv_irem hx hb hd hn hW) hs hk
  case ineg => exact kn_W_1i (fun hW => lv_ineg hx hb hd hW) hs hk
  case i2l => exact kn_W_1i (fun hW => lv_i2l hx hb hd rfl hW) hs hk
  case i2b => exact kn_W_1i (fun hW => lv_i2b hx hb hd rfl hW) hs hk
  case i2s => exact kn_W_1i (fun hW => lv_i2s hx hb hd rfl hW) hs hk
  case i2c => exact kn_W_1i (fun hW => lv_i2c hx hb hd rfl hW) hs hk
  case l2i => exact kn_W_1l (fun hW => lv_l2i hx hb hd rfl hW) hs hk
  case lneg => exact kn_W_1l (fun hW => lv_lneg hx hb hd hW) hs hk
  case ladd => exact kn_W_ll (fun hW => lv_ladd hx hb hd hW) hs hk
  case lsub => exact kn_W_ll (fun hW => lv_lsub hx hb hd hW) hs hk
  case lmul => exact kn_W_ll (fun hW => lv_lmul hx hb hd hW) hs hk
  case land => exact kn_W_ll (fun hW => lv_land hx hb hd hW) hs hk
  case lor => exact kn_W_ll (fun hW => lv_lor hx hb hd hW) hs hk
  case lxor => exact kn_W_ll (fun hW => lv_lxor hx hb hd hW) hs hk
  case ldiv => exact kn_W_ldv (fun hn hW => lv_ldiv hx hb hd hn hW) hs hk
  case lrem => exact kn_W_ldv (fun hn hW => lv_lrem hx hb hd hn hW) hs hk
  case lshl => exact kn_W_li (fun hW => lv_lshl hx hb hd rfl hW) hs hk
  case lshr => exact kn_W_li (fun hW => lv_lshr hx hb hd rfl hW) hs hk
  case lushr => exact kn_W_li (fun hW => lv_lushr hx hb hd rfl hW) hs hk
  case lcmp => exact kn_W_lc (fun hW => W.lcmp hx hb hd hW) hs hk
  case dup => exact kn_W_dup (fun h1 hW => lv_dup hx hb hd h1 hW) hs hk
  case pop => exact kn_W_pop (fun h1 hW => lv_pop hx hb hd h1 hW) hs hk
  case dup_x1 => exact kn_W_dx1 (fun h1 h2 hW => lv_dup_x1 hx hb hd h1 h2 hW) hs hk
  case dup_x2 => exact kn_W_dx2 (fun h1 h2 h3 hW => lv_dup_x2 hx hb hd h1 h2 h3 hW) hs hk
  case dup2 => exact kn_W_d2 (fun h1 h2 hW => lv_dup2_11 hx hb hd h1 h2 hW) hs hk
  case ifCond cnd off => exact kn_W_if hx hb hd (of_decide_eq_true ho) rfl hs hk
  case if_icmp cnd off => exact kn_W_br hx hb hd (of_decide_eq_true ho) rfl hs hk
  case ifnull off => exact kn_W_null hx hb hd (of_decide_eq_true ho) hs hk
  case ifnonnull off => exact kn_W_nonnull hx hb hd (of_decide_eq_true ho) hs hk
  case goto off => exact kn_W_to (fun hW => lv_goto hx hb hd (of_decide_eq_true ho) hW) hs hk
  case tableswitch dflt lo1 hi1 offs =>
    cases aux with
    | nil => cases ho
    | cons d ts =>
      obtain ⟨g1, g2⟩ := Bool.and_eq_true_iff.mp ho
      exact kn_W_tab C0 hd (of_decide_eq_true g1) (of_decide_eq_true g2) hs hk
  case iaload => exact kn_W_ald C0 hd hs hk
  case baload => exact kn_W_bald C0 hd hs hk
  case laload => exact kn_W_lald C0 hd hs hk
  case iastore => exact kn_W_ast C0 hd hs hk
  case bastore => exact kn_W_bast C0 hd hs hk
  case lastore => exact kn_W_last C0 hd hs hk
  case arraylength => exact kn_W_len C0 hd hs hk
  case newarray t => exact kn_W_newa C0 (kn_w1_in S ho) hd hs hcells hslots hk
  case getfield idx =>
    replace ho : kn_ckF cl Ts M.1.cls idx aux pl = true := ho
    unfold kn_ckF at ho
    split at ho
    · rename_i ci fk r1 i1 r2
      split at ho
      · rename_i q hq
        obtain ⟨g1, g2⟩ := Bool.and_eq_true_iff.mp ho
        rw [kn_at_eq] at hq
        exact kn_W_get C0 hq (S.2.2.2.2.1 ci q hq).1 (Nat.le_of_ble_eq_true g1) (Or.inl (kn_w1_in S g2)) hd hs hk
      · cases ho
    · cases ho
  case putfield idx =>
    replace ho : kn_ckP cl Ts M.1 idx aux pl = true := ho
    unfold kn_ckP at ho
    split at ho
    · rename_i ci fk tc r1 i1 r2
      split at ho
      · rename_i q hq
        obtain ⟨g1, g2⟩ := Bool.and_eq_true_iff.mp ho
        obtain ⟨g2, g3⟩ := Bool.and_eq_true_iff.mp g2
        obtain ⟨g3, g4⟩ := Bool.and_eq_true_iff.mp g3
        rw [kn_at_eq] at hq
        obtain ⟨c1, ⟨ty0, c2⟩, c3⟩ := S.2.2.2.2.1 ci q hq
        split at g3
        · rename_i ty hty
          refine kn_W_put C0 hq c1 (Nat.le_of_ble_eq_true g1) ty0 c2 c3 hty (Nat.eq_of_beq_eq_true g3) ?_ hd hs hk
          cases hf : (q.2.1 fk).2.2.2 with
          | false => exact Or.inl ⟨rfl, Or.inl (kn_w1_in S g2)⟩
          | true =>
            rw [hf] at g4
            obtain ⟨g5, g6⟩ := Bool.and_eq_true_iff.mp (show (decide (M.1.name = "<init>") && decide ((q.2.1 fk).1 = M.1.cls)) = true from g4)
            exact Or.inr ⟨rfl, of_decide_eq_true g5, of_decide_eq_true g6, kn_w1_in S g2⟩
        · cases g3
      · cases ho
    · cases ho
  case new idx =>
    replace ho : kn_ckN cl Ts M.1.cls idx aux pl = true := ho
    unfold kn_ckN at ho
    split at ho
    · rename_i ci N tcs i1 i2 i3 r2
      split at ho
      · rename_i q hq
        obtain ⟨g1, g2⟩ := Bool.and_eq_true_iff.mp ho
        obtain ⟨g2, g3⟩ := Bool.and_eq_true_iff.mp g2
        obtain ⟨g3, g4⟩ := Bool.and_eq_true_iff.mp g3
        obtain ⟨g4, g5⟩ := Bool.and_eq_true_iff.mp g4
        obtain ⟨g5, g6⟩ := Bool.and_eq_true_iff.mp g5
        rw [kn_at_eq] at hq
        obtain ⟨c1, ⟨ty0, c2⟩, c3⟩ := S.2.2.2.2.1 ci q hq
        have hN : q.2.2 = N := Nat.eq_of_beq_eq_true g1
        subst hN
        refine kn_W_new C0 hq c1 ty0 c2 (Nat.eq_of_beq_eq_true g2) (fun j hj => ?_) (kn_w1_in S g4) (kn_w1_in S g5) (kn_w1_in S g6) hd hs hcells hslots hk
        have h9 := List.all_eq_true.mp g3 j (List.mem_range.mpr hj)
        rw [c2 j hj] at h9
        obtain ⟨h8, h9⟩ := Bool.and_eq_true_iff.mp h9
        refine ⟨fun q => ?_, Nat.eq_of_beq_eq_true h9⟩
        rw [q] at h8
        cases h8
      · cases ho
    · cases ho
  case invokespecial idx =>
    cases aux with
    | cons a r =>
      exfalso
      replace hs : kn_cv (pc + 3) (a :: r) lo st h = some (.inl (f1, h1, k, z)) := hs
      unfold kn_cv at hs
      split at hs
      · split at hs
        · split at hs
          · rename_i nL _ _ _ _ _ _ _ _ _ _ _ _
            revert hs
            generalize (Nat.beq _ _ && _) = bb
            cases bb <;> intro hs <;> cases hs
          · cases hs
        · cases hs
      · cases hs
    | nil =>
      replace ho : kn_ckI cl Ts Ns T M idx [] pl = true := ho
      unfold kn_ckI at ho
      split at ho
      · rename_i i1 i2 r2
        obtain ⟨g1, g2⟩ := Bool.and_eq_true_iff.mp ho
        obtain ⟨g2, g3⟩ := Bool.and_eq_true_iff.mp g2
        obtain ⟨g3, g4⟩ := Bool.and_eq_true_iff.mp g3
        exact kn_W_obj C0 (kn_w1_in S g1) (kn_w1_in S g2) S.2.2.1 (Nat.le_of_ble_eq_true g3) (Nat.le_of_ble_eq_true g4) rfl hd hs hk
      · rename_i he
        cases he
      · cases ho
  case invokestatic idx =>
    cases aux with
    | cons a r =>
      exfalso
      replace hs : kn_cs (pc + 3) (a :: r) lo st = some (.inl (f1, h1, k, z)) := hs
      unfold kn_cs at hs
      split at hs
      · revert hs
        generalize (Nat.beq _ _ && _) = bb
        cases bb <;> intro hs <;> cases hs
      · cases hs
    | nil =>
      replace ho : kn_ckS Ts Ns T M idx [] pl = true := ho
      unfold kn_ckS at ho
      split at ho
      · rename_i i1 i2 i3 i4 r2
        obtain ⟨g1, g2⟩ := Bool.and_eq_true_iff.mp ho
        obtain ⟨g2, g3⟩ := Bool.and_eq_true_iff.mp g2
        obtain ⟨g3, g4⟩ := Bool.and_eq_true_iff.mp g3
        obtain ⟨g4, g5⟩ := Bool.and_eq_true_iff.mp g4
        obtain ⟨g5, g6⟩ := Bool.and_eq_true_iff.mp g5
        exact kn_W_copy C0 (kn_w1_in S g1) (kn_w1_in S g2) (kn_w1_in S g3) (kn_w1_in S g4) (Nat.le_of_ble_eq_true g5) (Nat.le_of_ble_eq_true g6) rfl hd hs hk
      · rename_i he
        cases he
      · cases ho
  case invokevirtual idx =>
    exfalso
    replace hs : kn_cv (pc + 3) aux lo st h = some (.inl (f1, h1, k, z)) := hs
    unfold kn_cv at hs
    split at hs
    · split at hs
      · split at hs
        · revert hs
          generalize (Nat.beq _ _ && _) = bb
          cases bb <;> intro hs <;> cases hs
        · cases hs
      · cases hs
    · cases hs
  case ireturn =>
    exfalso
    replace hs : kn_ri M.2.2.2.1 st = some (.inl (f1, h1, k, z)) := hs
    unfold kn_ri at hs
    split at hs
    · cases hs
    · revert hs
      generalize (_ || _) = bb
      cases bb <;> intro hs <;> cases hs
    · cases hs
  case lreturn =>
    exfalso
    replace hs : kn_rl M.2.2.2.1 st = some (.inl (f1, h1, k, z)) := hs
    unfold kn_rl at hs
    split at hs <;> cases hs
  case return_ =>
    exfalso
    replace hs : kn_rv M.2.2.2.1 st = some (.inl (f1, h1, k, z)) := hs
    unfold kn_rv at hs
    split at hs <;> cases hs
  all_goals (exfalso; cases hs)
end KNS3
end
section
/-- how a method ends at a pc -/
def kn_End (M : kn_M) (v : Option Value) (pc : Nat) : Prop :=
  (∃ x : Int32, v = some (.int x) ∧ decode M.2.1 pc = .ok (.ireturn, 1) ∧ (M.2.2.2.1 = some .int ∨ (M.2.2.2.1 = some .boolean ∧ (x = 0 ∨ x = 1)))) ∨
  (∃ x : Int64, v = some (.long x) ∧ decode M.2.1 pc = .ok (.lreturn, 1) ∧ M.2.2.2.1 = some .long) ∨ (v = none ∧ decode M.2.1 pc = .ok (.return_, 1) ∧ M.2.2.2.1 = none)
theorem kn_ri_inv {ret : Option FieldType} {st : List Value} {v : Option Value} (hs : kn_ri ret st = some (.inr (.inr v))) : ∃ x : Int32, v = some (.int x) ∧ st = [.int x] ∧ (ret = some .int ∨ (ret = some .boolean ∧ (x = 0 ∨ x = 1))) := by
  unfold kn_ri at hs
  split at hs
  · cases hs
    exact ⟨_, rfl, rfl, Or.inl rfl⟩
  · rename_i x
    cases hb : (x == 0 || x == 1) with
    | false => rw [hb] at hs; cases hs
    | true =>
      rw [hb] at hs
      cases hs
      refine ⟨_, rfl, rfl, Or.inr ⟨rfl, ?_⟩⟩
      rcases Bool.or_eq_true_iff.mp hb with h | h
      · exact Or.inl (eq_of_beq h)
      · exact Or.inr (eq_of_beq h)
  · cases hs
theorem kn_cv_inv {pc : Nat} {aux : List Nat} {lo : List (Nat × Value)} {st : List Value} {h : kn_H} {j : Nat} {as : List Value} {f1 : kn_F} (hs : kn_cv pc aux lo st h = some (.inr (.inl (j, as, f1)))) :
    ∃ (n ci nL : Nat) (tl : List Nat) (a : Nat) (r fs : List Value), aux = j :: n :: ci :: nL :: tl ∧ st.drop n = .ref a :: r ∧ kn_at h a = some (.inr (ci, fs)) ∧ (st.take n).length = n ∧ kn_cat r ≤ 8 ∧ (lg_sl as).length ≤ nL ∧ as = .ref a :: (st.take n).reverse ∧ f1 = (pc, lo, r) := by
  unfold kn_cv at hs
  split at hs
  · rename_i j' n ci nL tl
    split at hs
    · rename_i a r hdr
      split at hs
      · rename_i c' fs hat
        cases hb : Nat.beq c' ci && (Nat.beq (st.take n).length n && (Nat.ble (kn_cat r) 8 && Nat.ble (lg_sl (.ref a :: (st.take n).reverse)).length nL)) with
        | false => rw [hb] at hs; cases hs
        | true =>
          rw [hb] at hs
          obtain ⟨q1, q2⟩ := Bool.and_eq_true_iff.mp hb
          obtain ⟨q2, q3⟩ := Bool.and_eq_true_iff.mp q2
          obtain ⟨q3, q4⟩ := Bool.and_eq_true_iff.mp q3
          have e1 : c' = ci := Nat.eq_of_beq_eq_true q1
          subst e1
          cases hs
          exact ⟨n, c', nL, tl, a, r, fs, rfl, hdr, hat, Nat.eq_of_beq_eq_true q2, Nat.le_of_ble_eq_true q3, Nat.le_of_ble_eq_true q4, rfl, rfl⟩
      · cases hs
    · cases hs
  · cases hs
theorem kn_cs_inv {pc : Nat} {aux : List Nat} {lo : List (Nat × Value)} {st : List Value} {j : Nat} {as : List Value} {f1 : kn_F} (hs : kn_cs pc aux lo st = some (.inr (.inl (j, as, f1)))) :
    ∃ (n ci nL : Nat) (tl : List Nat), aux = j :: n :: ci :: nL :: tl ∧ (st.take n).length = n ∧ kn_cat (st.drop n) ≤ 8 ∧ (lg_sl as).length ≤ nL ∧ as = (st.take n).reverse ∧ f1 = (pc, lo, st.drop n) := by
  unfold kn_cs at hs
  split at hs
  · rename_i j' n ci nL tl
    cases hb : Nat.beq (st.take n).length n && (Nat.ble (kn_cat (st.drop n)) 8 && Nat.ble (lg_sl (st.take n).reverse).length nL) with
    | false => rw [hb] at hs; cases hs
    | true =>
      rw [hb] at hs
      obtain ⟨q2, q3⟩ := Bool.and_eq_true_iff.mp hb
      obtain ⟨q3, q4⟩ := Bool.and_eq_true_iff.mp q3
      cases hs
      exact ⟨n, ci, nL, tl, rfl, Nat.eq_of_beq_eq_true q2, Nat.le_of_ble_eq_true q3, Nat.le_of_ble_eq_true q4, rfl, rfl⟩
  · cases hs
/-- a step is on, a call or an end by its instruction -/
theorem kn_step_end {nL : Nat} {ret : Option FieldType} {i : kn_I} {pc : Nat} {lo : List (Nat × Value)} {st : List Value} {h : kn_H} {v : Option Value} (hs : kn_step nL ret i pc lo st h = some (.inr (.inr v))) : i.1 = .ireturn ∨ i.1 = .lreturn ∨ i.1 = .return_ := by
  obtain ⟨ins, len, aux, pl⟩ := i
  cases ins
  case ireturn => exact Or.inl rfl
  case lreturn => exact Or.inr (Or.inl rfl)
  case return_ => exact Or.inr (Or.inr rfl)
  all_goals first | (exfalso; cases hs; done) | skip
  all_goals (exfalso; simp only [kn_step, kn_ldi, kn_ldl, kn_lda, kn_sti, kn_stl, kn_sta, kn_inc, kn_ii, kn_id, kn_ll, kn_ldv, kn_li, kn_lc, kn_1i, kn_1l, kn_dup, kn_pop, kn_dx1, kn_dx2, kn_d2, kn_if, kn_cmp, kn_br, kn_nul, kn_tab, kn_get, kn_put, kn_ald, kn_lald, kn_ast, kn_bast, kn_last, kn_len, kn_new, kn_newa, kn_cv, kn_cs, kn_ci, kn_cst, kn_copy, kn_to, cond_eq_ite] at hs; (repeat' split at hs) <;> simp at hs)
theorem kn_step_call {nL : Nat} {ret : Option FieldType} {i : kn_I} {pc : Nat} {lo : List (Nat × Value)} {st : List Value} {h : kn_H} {q : Nat × List Value × kn_F} (hs : kn_step nL ret i pc lo st h = some (.inr (.inl q))) : (∃ n, i.1 = .invokevirtual n) ∨ (∃ n, i.1 = .invokespecial n) ∨ (∃ n, i.1 = .invokestatic n) := by
  obtain ⟨ins, len, aux, pl⟩ := i
  cases ins
  case invokevirtual n => exact Or.inl ⟨n, rfl⟩
  case invokespecial n => exact Or.inr (Or.inl ⟨n, rfl⟩)
  case invokestatic n => exact Or.inr (Or.inr ⟨n, rfl⟩)
  all_goals first | (exfalso; cases hs; done) | skip
  all_goals (exfalso; simp only [kn_step, kn_ldi, kn_ldl, kn_lda, kn_sti, kn_stl, kn_sta, kn_inc, kn_ii, kn_id, kn_ll, kn_ldv, kn_li, kn_lc, kn_1i, kn_1l, kn_dup, kn_pop, kn_dx1, kn_dx2, kn_d2, kn_if, kn_cmp, kn_br, kn_nul, kn_tab, kn_get, kn_put, kn_ald, kn_lald, kn_ast, kn_bast, kn_last, kn_len, kn_new, kn_newa, kn_ri, kn_rl, kn_rv, kn_to, cond_eq_ite] at hs; (repeat' split at hs) <;> simp at hs)
section KNS4
variable {p : Program} {l : Launch} {e : Env} {R : Room} {s : State} {m : MethodId} {args : Array Value} {below : List Frame} {meth : Method} {c : Code} {Q : State → Prop} {k0 z0 : Nat}
variable {cl : List vw_C} {Ts Tg Ns : List Cond} {T : List kn_M} {b base L : Nat} {xs : Nat → Int32} {cA : FieldType → ClassId} {D : va_G} {M : kn_M} {pc : Nat} {lo : List (Nat × Value)} {st : List Value} {h : kn_H}
/-- the heap is just as large as the cells say -/
theorem kn_exact {rr : kn_H} {H : Heap} {locs : List Loc} {E : kn_C → va_E} {k : Nat} (hz : s.heap.size + k = base + rr.length) (hP : va_P D cl (kn_w E base rr) H) (hS : va_S (fun q => base ≤ q) s.heap H locs) (hbs : base ≤ s.heap.size) (hle : H.size ≤ s.heap.size + k) : H.size = base + rr.length := by
  have h1 : s.heap.size ≤ H.size := hS.1
  rcases Nat.eq_zero_or_pos rr.length with h0 | h0
  · omega
  · have hs : ∃ y, kn_at rr (rr.length - 1) = some y := by
      rw [kn_at_eq]
      exact ⟨_, List.getElem?_eq_getElem (by omega)⟩
    obtain ⟨y, hy⟩ := hs
    have h2 : base + (rr.length - 1) < H.size := (hP _ _ (kn_w_get hy)).lt
    omega
/-- a method's start, and its end -/
def kn_Pc (cl : List vw_C) (Ns : List Cond) (b base L : Nat) (xs : Nat → Int32) (cA : FieldType → ClassId) (D : va_G) (as : List Value) (h : kn_H) : Array Value → State → Prop := fun a U =>
  a = (as.map (kn_v b base)).toArray ∧ (∀ w ∈ Ns, va_Nw w U) ∧ va_K D cl (kn_tys cA) U ∧ va_X b L xs U U.heap ∧ ∃ rr : kn_H, h = .inl (.int, L, .inl xs) :: rr ∧ U.heap.size = base + rr.length ∧ va_P D cl (kn_w (kn_e cA b base) base rr) U.heap
def kn_Qc (cl : List vw_C) (b base L : Nat) (xs : Nat → Int32) (cA : FieldType → ClassId) (D : va_G) (v : Option Value) (h1 : kn_H) (k : Nat) : Array Value → State → Outcome → State → Prop := fun _ st oc t =>
  oc = .returned (v.map (kn_v b base)) ∧ va_F (fun q => base ≤ q) st t ∧ ∃ rr : kn_H, h1 = .inl (.int, L, .inl xs) :: rr ∧ st.heap.size + k = base + rr.length ∧ va_P D cl (kn_w (kn_e cA b base) base rr) t.heap
/-- a run of the machine, said of the JVM -/
def kn_Snd (cl : List vw_C) (Tg Ns : List Cond) (b base L : Nat) (xs : Nat → Int32) (cA : FieldType → ClassId) (D : va_G) (l : Launch) (M : kn_M) (f : kn_F) (h : kn_H) (r : Option Value × kn_H × Nat × Nat) : Prop :=
  ∀ {p : Program} {e : Env} {R : Room} {s : State} {m : MethodId} {args : Array Value} {below : List Frame} {meth : Method} {c : Code} {Q : State → Prop} {k0 z0 : Nat}, kn_Ctx cl Tg Ns b base L xs cA D M p R s m args meth c → k0 + r.2.2.1 ≤ R.cells → z0 + r.2.2.2 ≤ R.slots →
    (∀ (H : Heap) (locs : List Loc) (ls : Array Slot) (pc : Nat), kn_Rel cl b base L xs cA D s H locs (k0 + r.2.2.1) r.2.1 → kn_End M r.1 pc → W p l e R s m args below meth c H locs (k0 + r.2.2.1) (z0 + r.2.2.2) Q (F0 m pc ls (r.1.map (kn_v b base)).toList)) →
    kn_Nx cl b base L xs cA D M.2.2.1 p l e R s m args below meth c Q f h k0 z0
theorem kn_met (S : kn_St cl Ts Tg Ns T) (l : Launch) (hbb : b < base) {M1 : kn_M} {j : Nat} (hj : kn_at T j = some M1) {as : List Value} {r : Option Value × kn_H × Nat × Nat} (IH : kn_Snd cl Tg Ns b base L xs cA D l M1 (0, lv_args 0 as, []) h r) (hlen : (lg_sl as).length ≤ M1.2.2.1) :
    Met l M1.1 (Cond.code M1.1 M1.2.1 M1.2.2.1 M1.2.2.2.1 :: Tg) ({ frames := M1.2.2.2.2.1.1, cells := r.2.2.1, slots := r.2.2.2, locals := M1.2.2.2.2.1.2 }) (kn_Pc cl Ns b base L xs cA D as h) (kn_Qc cl b base L xs cA D r.1 r.2.1 r.2.2.1) r.2.2.1 r.2.2.2 (fun q => base ≤ q) := by
  obtain ⟨-, hpl, -⟩ := S.2.1 j M1 hj
  refine Met.ofW (cc := M1.2.1) (maxL := M1.2.2.1) (ret := M1.2.2.2.1) hpl rfl ?_
  intro p e s m args below meth c s₁ B hml hv
  obtain ⟨rfl, hns, hK, hX, rr, rfl, hz, hP⟩ := hv
  have hts := atoms_spec (ws := Cond.code M1.1 M1.2.1 M1.2.2.1 M1.2.2.2.1 :: Tg) B.pre
  have hlk := B.notSynchronized
  have C1 : kn_Ctx cl Tg Ns b base L xs cA D M1 p (headSpec (Cond.code M1.1 M1.2.1 M1.2.2.1 M1.2.2.2.1 :: Tg) ({ frames := M1.2.2.2.2.1.1, cells := r.2.2.1, slots := r.2.2.2, locals := M1.2.2.2.2.1.2 } : Room)).room s m ((as.map (kn_v b base)).toArray) meth c :=
    ⟨B.exec, B.bytes, B.returns, hml, findClass_of_methodNamed B.named, fun w hw => hts w (List.mem_cons_of_mem _ hw), hns, hlk, fun hi => (name_of_methodNamed B.named B.method).1.trans hi, hK, hX, hbb, by omega, Nat.le_refl _, Nat.le_refl _⟩
  rw [lg_entry_eq]
  have hl := lv_entry (as.map (kn_v b base)) (n := M1.2.2.1) (by rw [kn_sl_len]; exact hlen)
  rw [← kn_vs_args] at hl
  refine IH (k0 := 0) (z0 := 0) C1 (by rw [Nat.zero_add]; exact Nat.le_refl _) (by rw [Nat.zero_add]; exact Nat.le_refl _) ?_ s.heap [] _ ⟨rr, rfl, by omega, hP, va_S.rf⟩ hl
  intro H locs ls pc hR hE
  rw [Nat.zero_add] at hR ⊢
  rw [Nat.zero_add]
  obtain ⟨rr1, e1, hz1, hP1, hS1⟩ := hR
  have hq : ∀ t : State, t.heap = H → kn_Qc cl b base L xs cA D r.1 r.2.1 r.2.2.1 ((as.map (kn_v b base)).toArray) s (.returned (r.1.map (kn_v b base))) t := fun t ht => ⟨rfl, hS1.F ht, rr1, e1, hz1, by rw [ht]; exact hP1⟩
  rcases hE with ⟨x, hv, hd, hr | ⟨hr, hx01⟩⟩ | ⟨x, hv, hd, hr⟩ | ⟨hv, hd, hr⟩
  · rw [hv] at hq ⊢
    exact W.iret B.exec B.bytes (B.returns.trans hr) (fun t ht _ => hq t ht) hS1.2.2 hd
  · rw [hv] at hq ⊢
    exact W.zret (ty := .boolean) B.exec B.bytes (B.returns.trans hr) (by rcases hx01 with rfl | rfl <;> rfl) (fun t ht _ => hq t ht) hS1.2.2 hd
  · rw [hv] at hq ⊢
    exact W.lret B.exec B.bytes (B.returns.trans hr) (fun t ht _ => hq t ht) hS1.2.2 hd
  · rw [hv] at hq ⊢
    exact W.vret B.exec B.bytes (B.returns.trans hr) (fun t ht _ => hq t ht) hS1.2.2 hd
theorem kn_blind (hns : ∀ w ∈ Ns, ∃ (a : String) (i : Nat) (x : MethodName) (h : String), w = .methodLinkNest a i x h) {as : List Value} : FrameBlind (kn_Pc cl Ns b base L xs cA D as h) := by
  intro a U g mk q
  obtain ⟨q0, q1, q2, q3, q4⟩ := q
  refine ⟨q0, fun w hw => ?_, va_K.moved (u := U) (U := U.calling g mk a) (Vm.Alike.refl U.vm) q2, va_X.moved (u := U) (U := U.calling g mk a) (Vm.Alike.refl U.vm) q3, q4⟩
  obtain ⟨a1, i1, x1, h1, rfl⟩ := hns w hw
  exact va_Nw.same rfl (rfl : U.vm = (U.calling g mk a).vm) (q1 _ hw)
theorem kn_callR {H : Heap} {locs : List Loc} {k z : Nat} {ls : Array Slot} {st0 rest : List Value} {a : Array Value} {v : Option Value} {h1 : kn_H} {rr : kn_H} (hr : va_Run p l e R s m args below meth c H locs k0 z0 k z (F0 m pc ls st0) rest (kn_Qc cl b base L xs cA D v h1 k a) (fun q => base ≤ q)) (hS : va_S (fun q => base ≤ q) s.heap H locs) (hz : s.heap.size + k0 = base + rr.length) (hH : H.size = base + rr.length)
    (kk : ∀ (H1 : Heap) (locs1 : List Loc), kn_Rel cl b base L xs cA D s H1 locs1 (k0 + k) h1 → W p l e R s m args below meth c H1 locs1 (k0 + k) (z0 + z) Q (F0 m (pc + 3) ls ((v.map (kn_v b base)).toList ++ rest))) : W p l e R s m args below meth c H locs k0 z0 Q (F0 m pc ls st0) := by
  intro T0 hT X
  obtain ⟨v', st₀, t, T', L', h0, X', hL, e1, e2, ⟨hv, hF, rr1, hh1, hz1, hP1⟩, st⟩ := hr T0 hT X
  obtain ⟨g1, g2⟩ := hF
  rw [h0] at g1 g2 hz1
  have hv' : v' = v.map (kn_v b base) := by cases hv; rfl
  subst hv'
  obtain ⟨t2, a1, b1⟩ := kk T'.heap (locs ++ L') ⟨rr1, hh1, by omega, by rw [e1]; exact hP1, by
    refine ⟨by rw [e1]; exact Nat.le_trans hS.1 g1, fun q h1 h2 => ?_, fun q hq => ?_⟩
    · rw [e1, g2 q (Nat.lt_of_lt_of_le h1 hS.1) h2]
      exact hS.2.1 q h1 h2
    · rcases List.mem_append.mp hq with h | h
      · exact hS.2.2 q h
      · exact hL q h⟩ T' rfl X'
  exact ⟨t2, st t2 a1, b1⟩
end KNS4
end
section
section KNS5
variable {p : Program} {l : Launch} {e : Env} {R : Room} {s : State} {m : MethodId} {args : Array Value} {below : List Frame} {meth : Method} {c : Code} {Q : State → Prop} {k0 z0 : Nat}
variable {cl : List vw_C} {Ts Tg Ns : List Cond} {T : List kn_M} {b base L : Nat} {xs : Nat → Int32} {cA : FieldType → ClassId} {D : va_G} {M M1 : kn_M} {pc j : Nat} {lo : List (Nat × Value)} {st as : List Value} {h : kn_H}
theorem kn_goodC (S : kn_St cl Ts Tg Ns T) (hj : kn_at T j = some M1) : GoodIn Tg (Cond.code M1.1 M1.2.1 M1.2.2.1 M1.2.2.2.1 :: Tg) := by
  intro w hw
  rcases List.mem_cons.mp hw with rfl | hw
  · exact ⟨(S.2.1 j M1 hj).1, Or.inl rfl⟩
  · exact ⟨hw, S.2.2.2.1 w hw⟩
theorem kn_map_opt (v : Option Value) (r : List Value) : (v.toList ++ r).map (kn_v b base) = (v.map (kn_v b base)).toList ++ r.map (kn_v b base) := by cases v <;> rfl
theorem kn_pre (C0 : kn_Ctx cl Tg Ns b base L xs cA D M p R s m args meth c) (hns : ∀ w ∈ Ns, ∃ (a : String) (i : Nat) (x : MethodName) (h : String), w = .methodLinkNest a i x h) {rr : kn_H} {H : Heap} {locs : List Loc} (hH : H.size = base + rr.length) (hP : va_P D cl (kn_w (kn_e cA b base) base rr) H) (hS : va_S (fun q => base ≤ q) s.heap H locs) {U : State} (hU : U.heap = H) (hW : s.WarmedH U.vm) :
    kn_Pc cl Ns b base L xs cA D as (.inl (.int, L, .inl xs) :: rr) ((as.map (kn_v b base)).toArray) U := by
  obtain ⟨hx, hb, hr, hml, hown, hts, hnw, hlk, hnm, hK, hX, hbb, hbs, hfr, hlc⟩ := C0
  refine ⟨rfl, fun w hw => ?_, va_K.moved hW.alike hK, ?_, rr, rfl, by rw [hU]; exact hH, by rw [hU]; exact hP⟩
  · obtain ⟨a1, i1, x1, h1, rfl⟩ := hns w hw
    exact va_Nw.warmM hW (hnw _ hw)
  · rw [hU]
    exact (hX.kept (hS.2.1 b (Nat.lt_of_lt_of_le hbb hbs) (Nat.not_le.mpr hbb))).moved hW.alike
theorem kn_cc_spec {n nL : Nat} (h : kn_cc M M1 n nL = true) : M1.2.2.2.2.1.1 + 1 ≤ M.2.2.2.2.1.1 ∧ 8 + (M1.2.2.1 + 11) + M1.2.2.2.2.1.2 ≤ M.2.2.2.2.1.2 ∧ nL = M1.2.2.1 ∧ M1.1.cls ≠ "java/lang/invoke/MethodHandle" ∧ M1.1.cls ≠ "java/lang/invoke/VarHandle" ∧ (parseMethodDescriptor M1.1.desc).map (fun d => d.parameters.length) = some n := by
  obtain ⟨g1, g2⟩ := Bool.and_eq_true_iff.mp h
  obtain ⟨g2, g3⟩ := Bool.and_eq_true_iff.mp g2
  obtain ⟨g3, g4⟩ := Bool.and_eq_true_iff.mp g3
  obtain ⟨g4, g5⟩ := Bool.and_eq_true_iff.mp g4
  obtain ⟨g5, g6⟩ := Bool.and_eq_true_iff.mp g5
  exact ⟨Nat.le_of_ble_eq_true g1, Nat.le_of_ble_eq_true g2, Nat.eq_of_beq_eq_true g3, of_decide_eq_true g4, of_decide_eq_true g5, of_decide_eq_true g6⟩
theorem kn_Wcall_v (S : kn_St cl Ts Tg Ns T) (C0 : kn_Ctx cl Tg Ns b base L xs cA D M p R s m args meth c) {idx : Nat} {aux pl : List Nat} (hd : decode M.2.1 pc = .ok (.invokevirtual idx, 3)) (hck : kn_ckV cl Ts Ns T M idx aux pl = true) {f1 : kn_F} (hs : kn_cv (pc + 3) aux lo st h = some (.inr (.inl (j, as, f1)))) (hj : kn_at T j = some M1)
    {r : Option Value × kn_H × Nat × Nat} (IH : kn_Snd cl Tg Ns b base L xs cA D l M1 (0, lv_args 0 as, []) h r) (hcells : k0 + r.2.2.1 ≤ R.cells) (hslots : z0 + r.2.2.2 ≤ R.slots) (hk : kn_Nx cl b base L xs cA D M.2.2.1 p l e R s m args below meth c Q (f1.1, f1.2.1, r.1.toList ++ f1.2.2) r.2.1 (k0 + r.2.2.1) (z0 + r.2.2.2)) :
    kn_Nx cl b base L xs cA D M.2.2.1 p l e R s m args below meth c Q (pc, lo, st) h k0 z0 := by
  obtain ⟨n, ci, nL, tl, a, rs, fs, rfl, hdr, hat, htk, hcat, hlen, rfl, rfl⟩ := kn_cv_inv hs
  unfold kn_ckV at hck
  split at hck
  · rename_i j' n' ci' nL' ne tl' i1 i2 i3 i4 tl2 he
    obtain ⟨rfl, rfl, rfl, rfl, rfl⟩ : j = j' ∧ n = n' ∧ ci = ci' ∧ nL = nL' ∧ tl = ne :: tl' := by simpa using he
    rw [hj] at hck
    split at hck
    · rename_i M1' q hM1 hq
      cases hM1
      obtain ⟨g1, g2⟩ := Bool.and_eq_true_iff.mp hck
      obtain ⟨g2, g3⟩ := Bool.and_eq_true_iff.mp g2
      obtain ⟨g3, g4⟩ := Bool.and_eq_true_iff.mp g3
      obtain ⟨g4, g5⟩ := Bool.and_eq_true_iff.mp g4
      obtain ⟨g5, g6⟩ := Bool.and_eq_true_iff.mp g5
      obtain ⟨c1, c2, rfl, c4, c5, c6⟩ := kn_cc_spec g1
      have hqc : q.1 = M1.1.cls := of_decide_eq_true g2
      rw [kn_at_eq] at hq
      intro H locs ls hR hl
      refine kn_bound (fun hle => ?_)
      have C0' := C0
      obtain ⟨hx, hb, hr, hml, hown, hts, hnw, hlk, hnm, hK, hX, hbb, hbs, hfr, hlc⟩ := C0
      obtain ⟨rr, rfl, hz, hP, hS⟩ := hR
      have hH := kn_exact hz hP hS hbs hle
      cases a with
      | zero => cases hat
      | succ a =>
        have hat' : kn_at rr a = some (.inr (ci, fs)) := hat
        have hM := kn_met S l hbb hj IH hlen
        have hst : st.map (kn_v b base) = ((st.take n).reverse.map (kn_v b base)).reverse ++ .ref (base + a) :: rs.map (kn_v b base) := by
          rw [List.map_reverse, List.reverse_reverse]
          calc st.map (kn_v b base) = (st.take n ++ st.drop n).map (kn_v b base) := by rw [List.take_append_drop]
            _ = _ := by rw [hdr, List.map_append]; rfl
        have hp : PreV s H q.1 (base + a) (kn_Pc cl Ns b base L xs cA D (.ref (a + 1) :: (st.take n).reverse) (.inl (.int, L, .inl xs) :: rr)) ((st.take n).reverse.map (kn_v b base)) :=
          ⟨kn_blind S.2.2.2.2.2, va_recv hK hP hq (kn_w_get hat'), fun U hU hW => kn_pre C0' S.2.2.2.2.2 hH hP hS hU hW⟩
        rw [hqc] at hp
        have hln : ((st.take n).reverse.map (kn_v b base)).length = n := by rw [List.length_map, List.length_reverse]; exact htk
        have hw8 : ((rs.map (kn_v b base)).map fun v => v.category).sum ≤ 8 := by rw [kn_cat_map]; exact hcat
        have hk' : ∀ (H1 : Heap) (locs1 : List Loc), kn_Rel cl b base L xs cA D s H1 locs1 (k0 + r.2.2.1) r.2.1 → W p l e R s m args below meth c H1 locs1 (k0 + r.2.2.1) (z0 + r.2.2.2) Q (F0 m (pc + 3) ls ((r.1.map (kn_v b base)).toList ++ rs.map (kn_v b base))) := by
          intro H1 locs1 hR1
          have := hk H1 locs1 ls hR1 hl
          rw [kn_map_opt] at this
          exact this
        cases ne with
        | zero =>
          exact kn_callR (rest := rs.map (kn_v b base)) (va_runV (As := (st.take n).reverse.map (kn_v b base)) ⟨hx, hb, hml, hown, hts⟩ hM ⟨callB_of n hts (kn_goodC S hj) rfl rfl rfl (hts _ (kn_w1_in S g4)) (hts _ (kn_w1_in S g3)) ⟨c4, c5, c6⟩ ⟨Nat.le_trans c1 hfr, Nat.le_trans c2 hlc⟩, hts _ (kn_w1_in S g5), hts _ (kn_w1_in S g6)⟩ hp rfl hln hl.1 hst (lv_room hw8) hd ⟨hcells, hslots⟩) hS hz hH hk'
        | succ ne =>
          have hnl : va_Nw (.methodLinkNest M.1.cls idx M1.1 "KnotLaw") s := hnw _ (by
            have h9 := of_decide_eq_true g3
            rw [kn_at_eq] at h9
            exact List.mem_of_getElem? h9)
          exact kn_callR (rest := rs.map (kn_v b base)) (va_runVN (As := (st.take n).reverse.map (kn_v b base)) ⟨hx, hb, hml, hown, hts⟩ hM ⟨va_cnB n hts (kn_goodC S hj) rfl rfl rfl hnl (hts _ (kn_w1_in S g4)) ⟨c4, c5, c6⟩ ⟨Nat.le_trans c1 hfr, Nat.le_trans c2 hlc⟩, hts _ (kn_w1_in S g5), hts _ (kn_w1_in S g6)⟩ hp rfl hln hl.1 hst (lv_room hw8) hd ⟨hcells, hslots⟩) hS hz hH hk'
    · cases hck
  · cases hck
theorem kn_Wcall_i (S : kn_St cl Ts Tg Ns T) (C0 : kn_Ctx cl Tg Ns b base L xs cA D M p R s m args meth c) {idx : Nat} {aux pl : List Nat} (hd : decode M.2.1 pc = .ok (.invokespecial idx, 3)) (hck : kn_ckI cl Ts Ns T M idx aux pl = true) {f1 : kn_F} (hs : kn_cv (pc + 3) aux lo st h = some (.inr (.inl (j, as, f1)))) (hj : kn_at T j = some M1)
    {r : Option Value × kn_H × Nat × Nat} (IH : kn_Snd cl Tg Ns b base L xs cA D l M1 (0, lv_args 0 as, []) h r) (hcells : k0 + r.2.2.1 ≤ R.cells) (hslots : z0 + r.2.2.2 ≤ R.slots) (hk : kn_Nx cl b base L xs cA D M.2.2.1 p l e R s m args below meth c Q (f1.1, f1.2.1, r.1.toList ++ f1.2.2) r.2.1 (k0 + r.2.2.1) (z0 + r.2.2.2)) :
    kn_Nx cl b base L xs cA D M.2.2.1 p l e R s m args below meth c Q (pc, lo, st) h k0 z0 := by
  obtain ⟨n, ci, nL, tl, a, rs, fs, rfl, hdr, hat, htk, hcat, hlen, rfl, rfl⟩ := kn_cv_inv hs
  unfold kn_ckI at hck
  split at hck
  · rename_i he
    cases he
  · rename_i j' n' ci' nL' ne tl' i1 i2 i3 tl2 he
    obtain ⟨rfl, rfl, rfl, rfl, rfl⟩ : j = j' ∧ n = n' ∧ ci = ci' ∧ nL = nL' ∧ tl = ne :: tl' := by simpa using he
    rw [hj] at hck
    dsimp only at hck
    obtain ⟨g1, g2⟩ := Bool.and_eq_true_iff.mp hck
    obtain ⟨g2, g3⟩ := Bool.and_eq_true_iff.mp g2
    obtain ⟨g3, g4⟩ := Bool.and_eq_true_iff.mp g3
    obtain ⟨g4, g5⟩ := Bool.and_eq_true_iff.mp g4
    obtain ⟨g5, g6⟩ := Bool.and_eq_true_iff.mp g5
    obtain ⟨c1, c2, rfl, c4, c5, c6⟩ := kn_cc_spec g1
    have hnm1 : M1.1.name = "<init>" := of_decide_eq_true g2
    have hrt1 : M1.2.2.2.1 = none := of_decide_eq_true g3
    intro H locs ls hR hl
    refine kn_bound (fun hle => ?_)
    have C0' := C0
    obtain ⟨hx, hb, hr, hml, hown, hts, hnw, hlk, hnm, hK, hX, hbb, hbs, hfr, hlc⟩ := C0
    obtain ⟨rr, rfl, hz, hP, hS⟩ := hR
    have hH := kn_exact hz hP hS hbs hle
    cases a with
    | zero => cases hat
    | succ a =>
      have hM := kn_met S l hbb hj IH hlen
      have hst : st.map (kn_v b base) = ((st.take n).reverse.map (kn_v b base)).reverse ++ .ref (base + a) :: rs.map (kn_v b base) := by
        rw [List.map_reverse, List.reverse_reverse]
        calc st.map (kn_v b base) = (st.take n ++ st.drop n).map (kn_v b base) := by rw [List.take_append_drop]
          _ = _ := by rw [hdr, List.map_append]; rfl
      have hp : PreS s H (kn_Pc cl Ns b base L xs cA D (.ref (a + 1) :: (st.take n).reverse) (.inl (.int, L, .inl xs) :: rr)) (.ref (base + a) :: (st.take n).reverse.map (kn_v b base)) :=
        ⟨kn_blind S.2.2.2.2.2, fun U hU hW => kn_pre C0' S.2.2.2.2.2 hH hP hS hU hW⟩
      have hln : ((st.take n).reverse.map (kn_v b base)).length = n := by rw [List.length_map, List.length_reverse]; exact htk
      have hw8 : ((rs.map (kn_v b base)).map fun v => v.category).sum ≤ 8 := by rw [kn_cat_map]; exact hcat
      have hG := kn_goodC S hj
      rw [hrt1] at hM hG
      have hk' : ∀ (H1 : Heap) (locs1 : List Loc), kn_Rel cl b base L xs cA D s H1 locs1 (k0 + r.2.2.1) r.2.1 → W p l e R s m args below meth c H1 locs1 (k0 + r.2.2.1) (z0 + r.2.2.2) Q (F0 m (pc + 3) ls ((r.1.map (kn_v b base)).toList ++ rs.map (kn_v b base))) := by
        intro H1 locs1 hR1
        have := hk H1 locs1 ls hR1 hl
        rw [kn_map_opt] at this
        exact this
      cases ne with
      | zero =>
        exact kn_callR (rest := rs.map (kn_v b base)) (va_runI (As := (st.take n).reverse.map (kn_v b base)) ⟨hx, hb, hml, hown, hts⟩ hM ⟨callB_of n hts hG rfl rfl rfl (hts _ (kn_w1_in S g5)) (hts _ (kn_w1_in S g4)) ⟨c4, c5, c6⟩ ⟨Nat.le_trans c1 hfr, Nat.le_trans c2 hlc⟩, hnm1, hts _ (kn_w1_in S g6)⟩ hp rfl hln hl.1 hst (lv_room hw8) hd ⟨hcells, hslots⟩) hS hz hH hk'
      | succ ne =>
        have hnl : va_Nw (.methodLinkNest M.1.cls idx M1.1 "KnotLaw") s := hnw _ (by
          have h9 := of_decide_eq_true g4
          rw [kn_at_eq] at h9
          exact List.mem_of_getElem? h9)
        exact kn_callR (rest := rs.map (kn_v b base)) (va_runIN (As := (st.take n).reverse.map (kn_v b base)) ⟨hx, hb, hml, hown, hts⟩ hM ⟨va_cnB n hts hG rfl rfl rfl hnl (hts _ (kn_w1_in S g5)) ⟨c4, c5, c6⟩ ⟨Nat.le_trans c1 hfr, Nat.le_trans c2 hlc⟩, hnm1, hts _ (kn_w1_in S g6)⟩ hp rfl hln hl.1 hst (lv_room hw8) hd ⟨hcells, hslots⟩) hS hz hH hk'
  · cases hck
theorem kn_Wcall_s (S : kn_St cl Ts Tg Ns T) (C0 : kn_Ctx cl Tg Ns b base L xs cA D M p R s m args meth c) {idx : Nat} {aux pl : List Nat} (hd : decode M.2.1 pc = .ok (.invokestatic idx, 3)) (hck : kn_ckS Ts Ns T M idx aux pl = true) {f1 : kn_F} (hs : kn_cs (pc + 3) aux lo st = some (.inr (.inl (j, as, f1)))) (hj : kn_at T j = some M1)
    {r : Option Value × kn_H × Nat × Nat} (IH : kn_Snd cl Tg Ns b base L xs cA D l M1 (0, lv_args 0 as, []) h r) (hcells : k0 + r.2.2.1 ≤ R.cells) (hslots : z0 + r.2.2.2 ≤ R.slots) (hk : kn_Nx cl b base L xs cA D M.2.2.1 p l e R s m args below meth c Q (f1.1, f1.2.1, r.1.toList ++ f1.2.2) r.2.1 (k0 + r.2.2.1) (z0 + r.2.2.2)) :
    kn_Nx cl b base L xs cA D M.2.2.1 p l e R s m args below meth c Q (pc, lo, st) h k0 z0 := by
  obtain ⟨n, ci, nL, tl, rfl, htk, hcat, hlen, rfl, rfl⟩ := kn_cs_inv hs
  unfold kn_ckS at hck
  split at hck
  · rename_i he
    cases he
  · rename_i j' n' ci' nL' ne tl' i1 i2 i3 tl2 he
    obtain ⟨rfl, rfl, rfl, rfl, rfl⟩ : j = j' ∧ n = n' ∧ ci = ci' ∧ nL = nL' ∧ tl = ne :: tl' := by simpa using he
    rw [hj] at hck
    dsimp only at hck
    obtain ⟨g1, g2⟩ := Bool.and_eq_true_iff.mp hck
    obtain ⟨g2, g3⟩ := Bool.and_eq_true_iff.mp g2
    obtain ⟨g3, g4⟩ := Bool.and_eq_true_iff.mp g3
    obtain ⟨c1, c2, rfl, c4, c5, c6⟩ := kn_cc_spec g1
    intro H locs ls hR hl
    refine kn_bound (fun hle => ?_)
    have C0' := C0
    obtain ⟨hx, hb, hr, hml, hown, hts, hnw, hlk, hnm, hK, hX, hbb, hbs, hfr, hlc⟩ := C0
    obtain ⟨rr, rfl, hz, hP, hS⟩ := hR
    have hH := kn_exact hz hP hS hbs hle
    have hM := kn_met S l hbb hj IH hlen
    have hst : st.map (kn_v b base) = ((st.take n).reverse.map (kn_v b base)).reverse ++ (st.drop n).map (kn_v b base) := by
      rw [List.map_reverse, List.reverse_reverse, ← List.map_append, List.take_append_drop]
    have hp : PreS s H (kn_Pc cl Ns b base L xs cA D ((st.take n).reverse) (.inl (.int, L, .inl xs) :: rr)) ((st.take n).reverse.map (kn_v b base)) :=
      ⟨kn_blind S.2.2.2.2.2, fun U hU hW => kn_pre C0' S.2.2.2.2.2 hH hP hS hU hW⟩
    have hln : ((st.take n).reverse.map (kn_v b base)).length = n := by rw [List.length_map, List.length_reverse]; exact htk
    have hw8 : (((st.drop n).map (kn_v b base)).map fun v => v.category).sum ≤ 8 := by rw [kn_cat_map]; exact hcat
    have hk' : ∀ (H1 : Heap) (locs1 : List Loc), kn_Rel cl b base L xs cA D s H1 locs1 (k0 + r.2.2.1) r.2.1 → W p l e R s m args below meth c H1 locs1 (k0 + r.2.2.1) (z0 + r.2.2.2) Q (F0 m (pc + 3) ls ((r.1.map (kn_v b base)).toList ++ (st.drop n).map (kn_v b base))) := by
      intro H1 locs1 hR1
      have := hk H1 locs1 ls hR1 hl
      rw [kn_map_opt] at this
      exact this
    cases ne with
    | zero =>
      exact kn_callR (rest := (st.drop n).map (kn_v b base)) (va_runS (As := (st.take n).reverse.map (kn_v b base)) ⟨hx, hb, hml, hown, hts⟩ hM ⟨callB_of n hts (kn_goodC S hj) rfl rfl rfl (hts _ (kn_w1_in S g3)) (hts _ (kn_w1_in S g2)) ⟨c4, c5, c6⟩ ⟨Nat.le_trans c1 hfr, Nat.le_trans c2 hlc⟩, hts _ (kn_w1_in S g4)⟩ hp rfl hln hl.1 hst (lv_room hw8) hd ⟨hcells, hslots⟩) hS hz hH hk'
    | succ ne =>
      have hnl : va_Nw (.methodLinkNest M.1.cls idx M1.1 "KnotLaw") s := hnw _ (by
        have h9 := of_decide_eq_true g2
        rw [kn_at_eq] at h9
        exact List.mem_of_getElem? h9)
      exact kn_callR (rest := (st.drop n).map (kn_v b base)) (va_runSN (As := (st.take n).reverse.map (kn_v b base)) ⟨hx, hb, hml, hown, hts⟩ hM ⟨va_cnB n hts (kn_goodC S hj) rfl rfl rfl hnl (hts _ (kn_w1_in S g3)) ⟨c4, c5, c6⟩ ⟨Nat.le_trans c1 hfr, Nat.le_trans c2 hlc⟩, hts _ (kn_w1_in S g4), trivial⟩ hp rfl hln hl.1 hst (lv_room hw8) hd ⟨hcells, hslots⟩) hS hz hH hk'
  · cases hck
/-- **every run of the small machine is the JVM's** -/
theorem kn_sound (S : kn_St cl Ts Tg Ns T) (l : Launch) : ∀ (n : Nat) (M : kn_M) (f : kn_F) (h : kn_H) (r : Option Value × kn_H × Nat × Nat), kn_run T n M f h = some r → kn_okM cl Ts Ns T M = true → kn_Snd cl Tg Ns b base L xs cA D l M f h r := by
  intro n
  induction n with
  | zero => intro M f h r hr; cases hr
  | succ n ih =>
    intro M f h r hr hM
    obtain ⟨pc, lo, st⟩ := f
    rw [kn_run] at hr
    split at hr
    · cases hr
    · rename_i i hi
      have hok := kn_okM_at hM hi
      intro p e R s m args below meth c Q k0 z0 C0 hcells hslots hret
      split at hr
      · cases hr
      · rename_i f1 h1 k z hs
        cases hrun : kn_run T n M f1 h1 with
        | none => rw [hrun] at hr; cases hr
        | some r1 =>
          rw [hrun] at hr
          cases hr
          dsimp only at hcells hslots hret
          refine kn_go S C0 hok hs (by omega) (by omega) (ih M f1 h1 r1 hrun hM C0 (by omega) (by omega) ?_)
          intro H locs ls pc1 hR hE
          have hq := hret H locs ls pc1 (by rw [← Nat.add_assoc]; exact hR) hE
          rw [← Nat.add_assoc, ← Nat.add_assoc] at hq
          exact hq
      · rename_i v hs
        cases hr
        intro H locs ls hR hl
        obtain ⟨hd, -⟩ := Bool.and_eq_true_iff.mp hok
        replace hd := of_decide_eq_true hd
        obtain ⟨ins, len, aux, pl⟩ := i
        rcases kn_step_end hs with he | he | he
        · cases he
          obtain ⟨x, rfl, rfl, hrt⟩ := kn_ri_inv hs
          exact hret H locs ls pc hR (Or.inl ⟨x, rfl, hd, hrt⟩)
        · cases he
          replace hs : kn_rl M.2.2.2.1 st = some (.inr (.inr v)) := hs
          unfold kn_rl at hs
          split at hs
          · rename_i x hrt
            cases hs
            exact hret H locs ls pc hR (Or.inr (Or.inl ⟨x, rfl, hd, hrt⟩))
          · cases hs
        · cases he
          replace hs : kn_rv M.2.2.2.1 st = some (.inr (.inr v)) := hs
          unfold kn_rv at hs
          split at hs
          · rename_i hrt
            cases hs
            exact hret H locs ls pc hR (Or.inr (Or.inr ⟨rfl, hd, hrt⟩))
          · cases hs
      · rename_i j as f1 hs
        cases hj : kn_at T j with
        | none => rw [hj] at hr; cases hr
        | some M1 =>
          rw [hj] at hr
          dsimp only at hr
          cases hrun1 : kn_run T n M1 (0, lv_args 0 as, []) h with
          | none => rw [hrun1] at hr; cases hr
          | some r1 =>
            rw [hrun1] at hr
            obtain ⟨v, h1, k, z⟩ := r1
            dsimp only at hr
            cases hrun : kn_run T n M (f1.1, f1.2.1, v.toList ++ f1.2.2) h1 with
            | none => rw [hrun] at hr; cases hr
            | some r2 =>
              rw [hrun] at hr
              cases hr
              dsimp only at hcells hslots hret
              have IH1 : kn_Snd cl Tg Ns b base L xs cA D l M1 (0, lv_args 0 as, []) h (v, h1, k, z) := ih M1 (0, lv_args 0 as, []) h (v, h1, k, z) hrun1 (S.2.1 j M1 hj).2.2
              have IH2 : kn_Snd cl Tg Ns b base L xs cA D l M (f1.1, f1.2.1, v.toList ++ f1.2.2) h1 r2 := ih M (f1.1, f1.2.1, v.toList ++ f1.2.2) h1 r2 hrun hM
              have hk : kn_Nx cl b base L xs cA D M.2.2.1 p l e R s m args below meth c Q (f1.1, f1.2.1, v.toList ++ f1.2.2) h1 (k0 + k) (z0 + z) := by
                refine IH2 C0 (by omega) (by omega) ?_
                intro H locs ls pc1 hR hE
                have hq := hret H locs ls pc1 (by rw [← Nat.add_assoc]; exact hR) hE
                rw [← Nat.add_assoc, ← Nat.add_assoc] at hq
                exact hq
              obtain ⟨hd, ho⟩ := Bool.and_eq_true_iff.mp hok
              replace hd := of_decide_eq_true hd
              obtain ⟨ins, len, aux, pl⟩ := i
              rcases kn_step_call hs with ⟨ix, he⟩ | ⟨ix, he⟩ | ⟨ix, he⟩
              · cases he
                exact kn_Wcall_v S C0 hd ho hs hj IH1 (by dsimp only; omega) (by dsimp only; omega) hk
              · cases he
                cases aux with
                | nil =>
                  exfalso
                  replace hs : kn_ci (pc + 3) [] lo st h = some (.inr (.inl (j, as, f1))) := hs
                  unfold kn_ci at hs
                  dsimp only at hs
                  split at hs
                  · revert hs
                    generalize Nat.ble _ _ = bb
                    cases bb <;> intro hs <;> cases hs
                  · cases hs
                | cons a1 ar => exact kn_Wcall_i S C0 hd ho hs hj IH1 (by dsimp only; omega) (by dsimp only; omega) hk
              · cases he
                cases aux with
                | nil =>
                  exfalso
                  replace hs : kn_copy (pc + 3) lo st h = some (.inr (.inl (j, as, f1))) := hs
                  simp only [kn_copy, kn_to, cond_eq_ite] at hs
                  (repeat' split at hs) <;> simp at hs
                | cons a1 ar => exact kn_Wcall_s S C0 hd ho hs hj IH1 (by dsimp only; omega) (by dsimp only; omega) hk
end KNS5
end
