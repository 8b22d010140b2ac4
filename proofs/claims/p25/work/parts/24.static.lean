-- ===== end of PART A; then your names; then what follows =====
/-! THE CLAIM OUT OF ONE WALK OF THE LAW'S BODY. Your part is whole_start (and what it stands on); all else here is the same for every law, but numbers. -/
def R_law : String := "KnotLawLaw"
def lw_P (b : Addr) (xs : List Int32) (args : Array Value) (s : State) : Prop := args = #[.ref b] ∧ s.IntsAt b xs ∧ xs.length ≤ 448 ∧ (Jvm.Cond.and given_1 narrow_1).before args s = true
def lw_Q (_ : Array Value) (s : State) (o : Outcome) (t : State) : Prop := o = .returned (some (.int 1)) ∧ Framed s o t [] 45 1765
def lw_Z (below : List Frame) (a : Array Value) (s : State) : State → Prop := fun t => ∃ o, t.status = .running ∧ Ended t below o ∧ lw_Q a s o t
/-- the law's own end, with 1 on the stack, nothing written that was there before, its room as the claim has it -/
theorem lw_ret {p : Program} {l : Launch} {e : Env} {s : State} {m : MethodId} {below : List Frame} {meth : Method} {c : Code} {b : Nat} (hx : p.tables.exec = Jvm.exec) (hb : c.code = code) (hr : meth.sig.returnType = ret) (hlocks : meth.locks = false) {pc : Nat} {H : Heap} {ls : Array Slot} (hdg : decode code pc = .ok (.ireturn, 1)) : W p l e room_1 s m #[Value.ref b] below meth c H [] 45 1765 (lw_Z below #[Value.ref b] s) (F0 m pc ls [.int 1]) := by
  intro T hT X
  obtain ⟨fs, hret, hrun, hended, hW, hframe⟩ := X.leave (v := some (.int 1)) (hlocks := hlocks) (fun h => by rw [hr] at h; cases h)
  have hmeth' : T.vm.method? m = some meth := X.method'
  refine ⟨T.setFrames fs, ?_, .returned (some (.int 1)), hrun, hended, rfl, ⟨_, rfl⟩, hW, hframe⟩
  jvm_step X.here [X.here.top, hx, hb, hdg, hmeth', hr, ret, narrow_b1]
  (try refine ⟨rfl, ?_⟩); (try refine ⟨rfl, ?_⟩)
  first | (intro acts; rw [hret _ acts rfl rfl rfl]) | rw [hret _ _ rfl rfl rfl]
  exact Steps.refl _
/-- what holds at the law's entry: the machine, the code, the tables' words (any of lw_tbl by 'hts w (by decide +kernel)'), the script of L ints xs at the cell b, what the Statement gives of the start (any of its parts by flat_of_before) -/
def lw_At (p : Program) (s : State) (m : MethodId) (meth : Method) (c : Code) (b L : Nat) (xs : Nat → Int32) : Prop :=
  p.tables.exec = Jvm.exec ∧ c.code = code ∧ meth.sig.returnType = ret ∧ c.maxLocals = 4 ∧ s.vm.findClass R_law = some m.cls ∧ (∀ w ∈ lw_tbl, w.before #[Value.ref b] s = true) ∧ va_X b L xs s s.heap ∧ b < s.heap.size ∧ meth.locks = false ∧ (Jvm.Cond.and given_1 narrow_1).before #[Value.ref b] s = true

def kn_Tg : List Cond := lw_tbl.filter (fun w => k2_isCode w || goodWord w)
theorem kn_Tg_of {w : Cond} (h : w ∈ lw_tbl) (hg : goodWord w = true) : w ∈ kn_Tg := List.mem_filter.mpr ⟨h, by simp [hg]⟩
theorem kn_Tg_code {y : MethodName} {bs : ByteArray} {n : Nat} {r : Option FieldType} {i : Nat} (h : lw_tbl[i]? = some (Cond.code y bs n r)) : Cond.code y bs n r ∈ kn_Tg := List.mem_filter.mpr ⟨List.mem_of_getElem? h, rfl⟩
theorem kn_Tg_good {w : Cond} (h : w ∈ kn_Tg) : (w.onTables && w.keeps) = true ∨ ∃ ty, w = .arrayClass ty := by
  obtain ⟨-, h2⟩ := List.mem_filter.mp h
  rcases Bool.or_eq_true_iff.mp h2 with h3 | h3
  · cases w <;> first | (cases h3; done) | exact Or.inl rfl
  · exact good_of_word h3
theorem kn_cl_ok : ∀ (ci : Nat) (q : vw_C), kn_cl[ci]? = some q → (∀ w ∈ u_ws q.1 q.2.1 q.2.2, w ∈ kn_Tg) ∧ (∃ ty0 : Nat → FieldType, ∀ k, k < q.2.2 → parseFieldDescriptor (q.2.1 k).2.2.1 = some (ty0 k)) ∧ (∀ a, a < q.2.2 → ∀ b, b < q.2.2 → a ≠ b → (q.2.1 a).2.1 ≠ (q.2.1 b).2.1) := by
  intro ci q hq
  match ci, hq with
  | 0, hq => cases hq; exact ⟨fun w hw => kn_Tg_of (kn0_in w hw).1 (kn0_in w hw).2, ⟨kt0, kn0_ty⟩, kn0_nm⟩
  | 1, hq => cases hq; exact ⟨fun w hw => kn_Tg_of (kn1_in w hw).1 (kn1_in w hw).2, ⟨kt1, kn1_ty⟩, kn1_nm⟩
  | 2, hq => cases hq; exact ⟨fun w hw => kn_Tg_of (kn2_in w hw).1 (kn2_in w hw).2, ⟨kt2, kn2_ty⟩, kn2_nm⟩
  | 3, hq => cases hq; exact ⟨fun w hw => kn_Tg_of (kn3_in w hw).1 (kn3_in w hw).2, ⟨kt3, kn3_ty⟩, kn3_nm⟩
  | 4, hq => cases hq; exact ⟨fun w hw => kn_Tg_of (kn4_in w hw).1 (kn4_in w hw).2, ⟨kt4, kn4_ty⟩, kn4_nm⟩
  | 5, hq => cases hq; exact ⟨fun w hw => kn_Tg_of (kn5_in w hw).1 (kn5_in w hw).2, ⟨kt5, kn5_ty⟩, kn5_nm⟩
  | 6, hq => cases hq; exact ⟨fun w hw => kn_Tg_of (kn6_in w hw).1 (kn6_in w hw).2, ⟨kt6, kn6_ty⟩, kn6_nm⟩
  | 7, hq => cases hq; exact ⟨fun w hw => kn_Tg_of (kn7_in w hw).1 (kn7_in w hw).2, ⟨kt7, kn7_ty⟩, kn7_nm⟩
  | n + 8, hq => simp [kn_cl] at hq
theorem kn_Ns_ok : ∀ w ∈ kn_Ns, ∃ (a : String) (i : Nat) (x : MethodName) (h : String), w = .methodLinkNest a i x h := by
  intro w hw
  simp only [kn_Ns, List.mem_cons, List.not_mem_nil, or_false] at hw
  rcases hw with rfl | rfl | rfl | rfl | rfl | rfl | rfl | rfl | rfl | rfl | rfl <;> exact ⟨_, _, _, _, rfl⟩
theorem kn_Ns_in : kn_Ns.map some = kn_Np.map (fun i => lw_tbl[i]?) := by decide +kernel
set_option maxRecDepth 100000 in
theorem kc_X0_init : lw_tbl[61]? = some (Cond.code km_X0_init.1 km_X0_init.2.1 km_X0_init.2.2.1 km_X0_init.2.2.2.1) := rfl
set_option maxRecDepth 100000 in
theorem kc_X0_add : lw_tbl[233]? = some (Cond.code km_X0_add.1 km_X0_add.2.1 km_X0_add.2.2.1 km_X0_add.2.2.2.1) := rfl
set_option maxRecDepth 100000 in
theorem kc_X0_owedBy : lw_tbl[269]? = some (Cond.code km_X0_owedBy.1 km_X0_owedBy.2.1 km_X0_owedBy.2.2.1 km_X0_owedBy.2.2.2.1) := rfl
set_option maxRecDepth 100000 in
theorem kc_X0_become : lw_tbl[330]? = some (Cond.code km_X0_become.1 km_X0_become.2.1 km_X0_become.2.2.1 km_X0_become.2.2.2.1) := rfl
set_option maxRecDepth 100000 in
theorem kc_X1_init : lw_tbl[146]? = some (Cond.code km_X1_init.1 km_X1_init.2.1 km_X1_init.2.2.1 km_X1_init.2.2.2.1) := rfl
set_option maxRecDepth 100000 in
theorem kc_X1_depthOf : lw_tbl[441]? = some (Cond.code km_X1_depthOf.1 km_X1_depthOf.2.1 km_X1_depthOf.2.2.1 km_X1_depthOf.2.2.2.1) := rfl
set_option maxRecDepth 100000 in
theorem kc_X1_deepest : lw_tbl[468]? = some (Cond.code km_X1_deepest.1 km_X1_deepest.2.1 km_X1_deepest.2.2.1 km_X1_deepest.2.2.2.1) := rfl
set_option maxRecDepth 100000 in
theorem kc_X1_fillDepths : lw_tbl[445]? = some (Cond.code km_X1_fillDepths.1 km_X1_fillDepths.2.1 km_X1_fillDepths.2.2.1 km_X1_fillDepths.2.2.2.1) := rfl
set_option maxRecDepth 100000 in
theorem kc_X1_deepestAmong : lw_tbl[450]? = some (Cond.code km_X1_deepestAmong.1 km_X1_deepestAmong.2.1 km_X1_deepestAmong.2.2.1 km_X1_deepestAmong.2.2.2.1) := rfl
set_option maxRecDepth 100000 in
theorem kc_X1_countOrders : lw_tbl[486]? = some (Cond.code km_X1_countOrders.1 km_X1_countOrders.2.1 km_X1_countOrders.2.2.1 km_X1_countOrders.2.2.2.1) := rfl
set_option maxRecDepth 100000 in
theorem kc_X1_countOrdersWith : lw_tbl[509]? = some (Cond.code km_X1_countOrdersWith.1 km_X1_countOrdersWith.2.1 km_X1_countOrdersWith.2.2.1 km_X1_countOrdersWith.2.2.2.1) := rfl
set_option maxRecDepth 100000 in
theorem kc_X1_fillBars : lw_tbl[490]? = some (Cond.code km_X1_fillBars.1 km_X1_fillBars.2.1 km_X1_fillBars.2.2.1 km_X1_fillBars.2.2.2.1) := rfl
set_option maxRecDepth 100000 in
theorem kc_X1_countWays : lw_tbl[494]? = some (Cond.code km_X1_countWays.1 km_X1_countWays.2.1 km_X1_countWays.2.2.1 km_X1_countWays.2.2.2.1) := rfl
set_option maxRecDepth 100000 in
theorem kc_X1_waysTo : lw_tbl[498]? = some (Cond.code km_X1_waysTo.1 km_X1_waysTo.2.1 km_X1_waysTo.2.2.1 km_X1_waysTo.2.2.2.1) := rfl
set_option maxRecDepth 100000 in
theorem kc_X2_init : lw_tbl[95]? = some (Cond.code km_X2_init.1 km_X2_init.2.1 km_X2_init.2.2.1 km_X2_init.2.2.2.1) := rfl
set_option maxRecDepth 100000 in
theorem kc_X2_makeRoom : lw_tbl[357]? = some (Cond.code km_X2_makeRoom.1 km_X2_makeRoom.2.1 km_X2_makeRoom.2.2.1 km_X2_makeRoom.2.2.2.1) := rfl
set_option maxRecDepth 100000 in
theorem kc_X2_become : lw_tbl[544]? = some (Cond.code km_X2_become.1 km_X2_become.2.1 km_X2_become.2.2.1 km_X2_become.2.2.2.1) := rfl
set_option maxRecDepth 100000 in
theorem kc_X3_init : lw_tbl[162]? = some (Cond.code km_X3_init.1 km_X3_init.2.1 km_X3_init.2.2.1 km_X3_init.2.2.2.1) := rfl
set_option maxRecDepth 100000 in
theorem kc_X3_addLetter : lw_tbl[281]? = some (Cond.code km_X3_addLetter.1 km_X3_addLetter.2.1 km_X3_addLetter.2.2.1 km_X3_addLetter.2.2.2.1) := rfl
set_option maxRecDepth 100000 in
theorem kc_X3_readTape : lw_tbl[289]? = some (Cond.code km_X3_readTape.1 km_X3_readTape.2.1 km_X3_readTape.2.2.1 km_X3_readTape.2.2.2.1) := rfl
set_option maxRecDepth 100000 in
theorem kc_X3_readClauses : lw_tbl[293]? = some (Cond.code km_X3_readClauses.1 km_X3_readClauses.2.1 km_X3_readClauses.2.2.1 km_X3_readClauses.2.2.2.1) := rfl
set_option maxRecDepth 100000 in
theorem kc_X3_readClause : lw_tbl[297]? = some (Cond.code km_X3_readClause.1 km_X3_readClause.2.1 km_X3_readClause.2.2.1 km_X3_readClause.2.2.2.1) := rfl
set_option maxRecDepth 100000 in
theorem kc_X3_readHolds : lw_tbl[312]? = some (Cond.code km_X3_readHolds.1 km_X3_readHolds.2.1 km_X3_readHolds.2.2.1 km_X3_readHolds.2.2.2.1) := rfl
set_option maxRecDepth 100000 in
theorem kc_X3_readBarred : lw_tbl[320]? = some (Cond.code km_X3_readBarred.1 km_X3_readBarred.2.1 km_X3_readBarred.2.2.1 km_X3_readBarred.2.2.2.1) := rfl
set_option maxRecDepth 100000 in
theorem kc_X3_nextLetter : lw_tbl[301]? = some (Cond.code km_X3_nextLetter.1 km_X3_nextLetter.2.1 km_X3_nextLetter.2.2.1 km_X3_nextLetter.2.2.2.1) := rfl
set_option maxRecDepth 100000 in
theorem kc_X3_letterAt : lw_tbl[305]? = some (Cond.code km_X3_letterAt.1 km_X3_letterAt.2.1 km_X3_letterAt.2.2.1 km_X3_letterAt.2.2.2.1) := rfl
set_option maxRecDepth 100000 in
theorem kc_X3_isDigit : lw_tbl[315]? = some (Cond.code km_X3_isDigit.1 km_X3_isDigit.2.1 km_X3_isDigit.2.2.1 km_X3_isDigit.2.2.2.1) := rfl
set_option maxRecDepth 100000 in
theorem kc_X3_kindOf : lw_tbl[308]? = some (Cond.code km_X3_kindOf.1 km_X3_kindOf.2.1 km_X3_kindOf.2.2.1 km_X3_kindOf.2.2.2.1) := rfl
set_option maxRecDepth 100000 in
theorem kc_X4_init : lw_tbl[55]? = some (Cond.code km_X4_init.1 km_X4_init.2.1 km_X4_init.2.2.1 km_X4_init.2.2.2.1) := rfl
set_option maxRecDepth 100000 in
theorem kc_X4_addClause : lw_tbl[229]? = some (Cond.code km_X4_addClause.1 km_X4_addClause.2.1 km_X4_addClause.2.2.1 km_X4_addClause.2.2.2.1) := rfl
set_option maxRecDepth 100000 in
theorem kc_X4_startWith : lw_tbl[326]? = some (Cond.code km_X4_startWith.1 km_X4_startWith.2.1 km_X4_startWith.2.2.1 km_X4_startWith.2.2.2.1) := rfl
set_option maxRecDepth 100000 in
theorem kc_X4_become : lw_tbl[540]? = some (Cond.code km_X4_become.1 km_X4_become.2.1 km_X4_become.2.2.1 km_X4_become.2.2.2.1) := rfl
set_option maxRecDepth 100000 in
theorem kc_X4_firmBy : lw_tbl[261]? = some (Cond.code km_X4_firmBy.1 km_X4_firmBy.2.1 km_X4_firmBy.2.2.1 km_X4_firmBy.2.2.2.1) := rfl
set_option maxRecDepth 100000 in
theorem kc_X4_firmOnDay : lw_tbl[257]? = some (Cond.code km_X4_firmOnDay.1 km_X4_firmOnDay.2.1 km_X4_firmOnDay.2.2.1 km_X4_firmOnDay.2.2.2.1) := rfl
set_option maxRecDepth 100000 in
theorem kc_X4_firmOf : lw_tbl[253]? = some (Cond.code km_X4_firmOf.1 km_X4_firmOf.2.1 km_X4_firmOf.2.2.1 km_X4_firmOf.2.2.2.1) := rfl
set_option maxRecDepth 100000 in
theorem kc_X4_firmTogether : lw_tbl[388]? = some (Cond.code km_X4_firmTogether.1 km_X4_firmTogether.2.1 km_X4_firmTogether.2.2.1 km_X4_firmTogether.2.2.2.1) := rfl
set_option maxRecDepth 100000 in
theorem kc_X4_weigh : lw_tbl[366]? = some (Cond.code km_X4_weigh.1 km_X4_weigh.2.1 km_X4_weigh.2.2.1 km_X4_weigh.2.2.2.1) := rfl
set_option maxRecDepth 100000 in
theorem kc_X4_freeAmong : lw_tbl[248]? = some (Cond.code km_X4_freeAmong.1 km_X4_freeAmong.2.1 km_X4_freeAmong.2.2.1 km_X4_freeAmong.2.2.2.1) := rfl
set_option maxRecDepth 100000 in
theorem kc_X4_fallsAmong : lw_tbl[371]? = some (Cond.code km_X4_fallsAmong.1 km_X4_fallsAmong.2.1 km_X4_fallsAmong.2.2.1 km_X4_fallsAmong.2.2.2.1) := rfl
set_option maxRecDepth 100000 in
theorem kc_X4_boundParties : lw_tbl[341]? = some (Cond.code km_X4_boundParties.1 km_X4_boundParties.2.1 km_X4_boundParties.2.2.1 km_X4_boundParties.2.2.2.1) := rfl
set_option maxRecDepth 100000 in
theorem kc_X4_neededFor : lw_tbl[434]? = some (Cond.code km_X4_neededFor.1 km_X4_neededFor.2.1 km_X4_neededFor.2.2.1 km_X4_neededFor.2.2.2.1) := rfl
set_option maxRecDepth 100000 in
theorem kc_X4_firmestUpTo : lw_tbl[430]? = some (Cond.code km_X4_firmestUpTo.1 km_X4_firmestUpTo.2.1 km_X4_firmestUpTo.2.2.1 km_X4_firmestUpTo.2.2.2.1) := rfl
set_option maxRecDepth 100000 in
theorem kc_X4_undoBy : lw_tbl[362]? = some (Cond.code km_X4_undoBy.1 km_X4_undoBy.2.1 km_X4_undoBy.2.2.1 km_X4_undoBy.2.2.2.1) := rfl
set_option maxRecDepth 100000 in
theorem kc_X4_driftOneDay : lw_tbl[400]? = some (Cond.code km_X4_driftOneDay.1 km_X4_driftOneDay.2.1 km_X4_driftOneDay.2.2.1 km_X4_driftOneDay.2.2.2.1) := rfl
set_option maxRecDepth 100000 in
theorem kc_X4_remember : lw_tbl[353]? = some (Cond.code km_X4_remember.1 km_X4_remember.2.1 km_X4_remember.2.2.1 km_X4_remember.2.2.2.1) := rfl
set_option maxRecDepth 100000 in
theorem kc_X4_takeBack : lw_tbl[412]? = some (Cond.code km_X4_takeBack.1 km_X4_takeBack.2.1 km_X4_takeBack.2.2.1 km_X4_takeBack.2.2.2.1) := rfl
set_option maxRecDepth 100000 in
theorem kc_X5_init : lw_tbl[184]? = some (Cond.code km_X5_init.1 km_X5_init.2.1 km_X5_init.2.2.1 km_X5_init.2.2.2.1) := rfl
set_option maxRecDepth 100000 in
theorem kc_X5_lay : lw_tbl[607]? = some (Cond.code km_X5_lay.1 km_X5_lay.2.1 km_X5_lay.2.2.1 km_X5_lay.2.2.2.1) := rfl
set_option maxRecDepth 100000 in
theorem kc_X5_takeAway : lw_tbl[616]? = some (Cond.code km_X5_takeAway.1 km_X5_takeAway.2.1 km_X5_takeAway.2.2.1 km_X5_takeAway.2.2.2.1) := rfl
set_option maxRecDepth 100000 in
theorem kc_X5_faultOf : lw_tbl[562]? = some (Cond.code km_X5_faultOf.1 km_X5_faultOf.2.1 km_X5_faultOf.2.2.1 km_X5_faultOf.2.2.2.1) := rfl
set_option maxRecDepth 100000 in
theorem kc_X5_isInside : lw_tbl[566]? = some (Cond.code km_X5_isInside.1 km_X5_isInside.2.1 km_X5_isInside.2.2.1 km_X5_isInside.2.2.2.1) := rfl
set_option maxRecDepth 100000 in
theorem kc_X5_get : lw_tbl[574]? = some (Cond.code km_X5_get.1 km_X5_get.2.1 km_X5_get.2.2.1 km_X5_get.2.2.2.1) := rfl
set_option maxRecDepth 100000 in
theorem kc_X5_put : lw_tbl[596]? = some (Cond.code km_X5_put.1 km_X5_put.2.1 km_X5_put.2.2.1 km_X5_put.2.2.2.1) := rfl
set_option maxRecDepth 100000 in
theorem kc_X5_lowestBits : lw_tbl[599]? = some (Cond.code km_X5_lowestBits.1 km_X5_lowestBits.2.1 km_X5_lowestBits.2.2.1 km_X5_lowestBits.2.2.2.1) := rfl
set_option maxRecDepth 100000 in
theorem kc_X5_carry : lw_tbl[628]? = some (Cond.code km_X5_carry.1 km_X5_carry.2.1 km_X5_carry.2.2.1 km_X5_carry.2.2.2.1) := rfl
set_option maxRecDepth 100000 in
theorem kc_X6_init : lw_tbl[47]? = some (Cond.code km_X6_init.1 km_X6_init.2.1 km_X6_init.2.2.1 km_X6_init.2.2.2.1) := rfl
set_option maxRecDepth 100000 in
theorem kc_X6_clause : lw_tbl[219]? = some (Cond.code km_X6_clause.1 km_X6_clause.2.1 km_X6_clause.2.2.1 km_X6_clause.2.2.2.1) := rfl
set_option maxRecDepth 100000 in
theorem kc_X6_of : lw_tbl[237]? = some (Cond.code km_X6_of.1 km_X6_of.2.1 km_X6_of.2.2.1 km_X6_of.2.2.2.1) := rfl
set_option maxRecDepth 100000 in
theorem kc_X6_party : lw_tbl[265]? = some (Cond.code km_X6_party.1 km_X6_party.2.1 km_X6_party.2.2.1 km_X6_party.2.2.2.1) := rfl
set_option maxRecDepth 100000 in
theorem kc_X6_owe : lw_tbl[273]? = some (Cond.code km_X6_owe.1 km_X6_owe.2.1 km_X6_owe.2.2.1 km_X6_owe.2.2.2.1) := rfl
set_option maxRecDepth 100000 in
theorem kc_X6_type : lw_tbl[277]? = some (Cond.code km_X6_type.1 km_X6_type.2.1 km_X6_type.2.2.1 km_X6_type.2.2.2.1) := rfl
set_option maxRecDepth 100000 in
theorem kc_X6_agreement : lw_tbl[285]? = some (Cond.code km_X6_agreement.1 km_X6_agreement.2.1 km_X6_agreement.2.2.1 km_X6_agreement.2.2.2.1) := rfl
set_option maxRecDepth 100000 in
theorem kc_X6_count : lw_tbl[337]? = some (Cond.code km_X6_count.1 km_X6_count.2.1 km_X6_count.2.2.1 km_X6_count.2.2.2.1) := rfl
set_option maxRecDepth 100000 in
theorem kc_X6_pull : lw_tbl[346]? = some (Cond.code km_X6_pull.1 km_X6_pull.2.1 km_X6_pull.2.2.1 km_X6_pull.2.2.2.1) := rfl
set_option maxRecDepth 100000 in
theorem kc_X6_cut : lw_tbl[376]? = some (Cond.code km_X6_cut.1 km_X6_cut.2.1 km_X6_cut.2.2.1 km_X6_cut.2.2.2.1) := rfl
set_option maxRecDepth 100000 in
theorem kc_X6_tie : lw_tbl[380]? = some (Cond.code km_X6_tie.1 km_X6_tie.2.1 km_X6_tie.2.2.1 km_X6_tie.2.2.2.1) := rfl
set_option maxRecDepth 100000 in
theorem kc_X6_wet : lw_tbl[384]? = some (Cond.code km_X6_wet.1 km_X6_wet.2.1 km_X6_wet.2.2.1 km_X6_wet.2.2.2.1) := rfl
set_option maxRecDepth 100000 in
theorem kc_X6_days : lw_tbl[392]? = some (Cond.code km_X6_days.1 km_X6_days.2.1 km_X6_days.2.2.1 km_X6_days.2.2.2.1) := rfl
set_option maxRecDepth 100000 in
theorem kc_X6_drift : lw_tbl[396]? = some (Cond.code km_X6_drift.1 km_X6_drift.2.1 km_X6_drift.2.2.1 km_X6_drift.2.2.2.1) := rfl
set_option maxRecDepth 100000 in
theorem kc_X6_undo : lw_tbl[408]? = some (Cond.code km_X6_undo.1 km_X6_undo.2.1 km_X6_undo.2.2.1 km_X6_undo.2.2.2.1) := rfl
set_option maxRecDepth 100000 in
theorem kc_X6_seed : lw_tbl[416]? = some (Cond.code km_X6_seed.1 km_X6_seed.2.1 km_X6_seed.2.2.1 km_X6_seed.2.2.2.1) := rfl
set_option maxRecDepth 100000 in
theorem kc_X6_falls : lw_tbl[420]? = some (Cond.code km_X6_falls.1 km_X6_falls.2.1 km_X6_falls.2.2.1 km_X6_falls.2.2.2.1) := rfl
set_option maxRecDepth 100000 in
theorem kc_X6_pulls : lw_tbl[426]? = some (Cond.code km_X6_pulls.1 km_X6_pulls.2.1 km_X6_pulls.2.2.1 km_X6_pulls.2.2.2.1) := rfl
set_option maxRecDepth 100000 in
theorem kc_X6_force : lw_tbl[455]? = some (Cond.code km_X6_force.1 km_X6_force.2.1 km_X6_force.2.2.1 km_X6_force.2.2.2.1) := rfl
set_option maxRecDepth 100000 in
theorem kc_X6_needs : lw_tbl[459]? = some (Cond.code km_X6_needs.1 km_X6_needs.2.1 km_X6_needs.2.2.1 km_X6_needs.2.2.2.1) := rfl
set_option maxRecDepth 100000 in
theorem kc_X6_deep : lw_tbl[464]? = some (Cond.code km_X6_deep.1 km_X6_deep.2.1 km_X6_deep.2.2.1 km_X6_deep.2.2.2.1) := rfl
set_option maxRecDepth 100000 in
theorem kc_X6_frees : lw_tbl[472]? = some (Cond.code km_X6_frees.1 km_X6_frees.2.1 km_X6_frees.2.2.1 km_X6_frees.2.2.2.1) := rfl
set_option maxRecDepth 100000 in
theorem kc_X6_orders : lw_tbl[482]? = some (Cond.code km_X6_orders.1 km_X6_orders.2.1 km_X6_orders.2.2.1 km_X6_orders.2.2.2.1) := rfl
set_option maxRecDepth 100000 in
theorem kc_X6_ahead : lw_tbl[505]? = some (Cond.code km_X6_ahead.1 km_X6_ahead.2.1 km_X6_ahead.2.2.1 km_X6_ahead.2.2.2.1) := rfl
set_option maxRecDepth 100000 in
theorem kc_X6_game : lw_tbl[513]? = some (Cond.code km_X6_game.1 km_X6_game.2.1 km_X6_game.2.2.1 km_X6_game.2.2.2.1) := rfl
set_option maxRecDepth 100000 in
theorem kc_X6_cuts : lw_tbl[517]? = some (Cond.code km_X6_cuts.1 km_X6_cuts.2.1 km_X6_cuts.2.2.1 km_X6_cuts.2.2.2.1) := rfl
set_option maxRecDepth 100000 in
theorem kc_X6_weather : lw_tbl[521]? = some (Cond.code km_X6_weather.1 km_X6_weather.2.1 km_X6_weather.2.2.1 km_X6_weather.2.2.2.1) := rfl
set_option maxRecDepth 100000 in
theorem kc_X6_rotten : lw_tbl[526]? = some (Cond.code km_X6_rotten.1 km_X6_rotten.2.1 km_X6_rotten.2.2.1 km_X6_rotten.2.2.2.1) := rfl
set_option maxRecDepth 100000 in
theorem kc_X6_image : lw_tbl[536]? = some (Cond.code km_X6_image.1 km_X6_image.2.1 km_X6_image.2.2.1 km_X6_image.2.2.2.1) := rfl
set_option maxRecDepth 100000 in
theorem kc_X6_restore : lw_tbl[548]? = some (Cond.code km_X6_restore.1 km_X6_restore.2.1 km_X6_restore.2.2.1 km_X6_restore.2.2.2.1) := rfl
set_option maxRecDepth 100000 in
theorem kc_X6_felt : lw_tbl[552]? = some (Cond.code km_X6_felt.1 km_X6_felt.2.1 km_X6_felt.2.2.1 km_X6_felt.2.2.2.1) := rfl
set_option maxRecDepth 100000 in
theorem kc_X6_film : lw_tbl[592]? = some (Cond.code km_X6_film.1 km_X6_film.2.1 km_X6_film.2.2.1 km_X6_film.2.2.2.1) := rfl
set_option maxRecDepth 100000 in
theorem kc_X6_sheet : lw_tbl[603]? = some (Cond.code km_X6_sheet.1 km_X6_sheet.2.1 km_X6_sheet.2.2.1 km_X6_sheet.2.2.2.1) := rfl
set_option maxRecDepth 100000 in
theorem kc_X6_drop : lw_tbl[612]? = some (Cond.code km_X6_drop.1 km_X6_drop.2.1 km_X6_drop.2.2.1 km_X6_drop.2.2.2.1) := rfl
set_option maxRecDepth 100000 in
theorem kc_X6_item : lw_tbl[620]? = some (Cond.code km_X6_item.1 km_X6_item.2.1 km_X6_item.2.2.1 km_X6_item.2.2.2.1) := rfl
set_option maxRecDepth 100000 in
theorem kc_X6_copy : lw_tbl[624]? = some (Cond.code km_X6_copy.1 km_X6_copy.2.1 km_X6_copy.2.2.1 km_X6_copy.2.2.2.1) := rfl
set_option maxRecDepth 100000 in
theorem kc_X6_isWithin : lw_tbl[222]? = some (Cond.code km_X6_isWithin.1 km_X6_isWithin.2.1 km_X6_isWithin.2.2.1 km_X6_isWithin.2.2.2.1) := rfl
set_option maxRecDepth 100000 in
theorem kc_X6_isForce : lw_tbl[349]? = some (Cond.code km_X6_isForce.1 km_X6_isForce.2.1 km_X6_isForce.2.2.1 km_X6_isForce.2.2.2.1) := rfl
set_option maxRecDepth 100000 in
theorem kc_X6_isParty : lw_tbl[225]? = some (Cond.code km_X6_isParty.1 km_X6_isParty.2.1 km_X6_isParty.2.2.1 km_X6_isParty.2.2.2.1) := rfl
set_option maxRecDepth 100000 in
theorem kc_X6_isSheet : lw_tbl[555]? = some (Cond.code km_X6_isSheet.1 km_X6_isSheet.2.1 km_X6_isSheet.2.2.1 km_X6_isSheet.2.2.2.1) := rfl
set_option maxRecDepth 100000 in
theorem kc_X6_isLane : lw_tbl[558]? = some (Cond.code km_X6_isLane.1 km_X6_isLane.2.1 km_X6_isLane.2.2.1 km_X6_isLane.2.2.2.1) := rfl
set_option maxRecDepth 100000 in
theorem kc_X6_isClause : lw_tbl[241]? = some (Cond.code km_X6_isClause.1 km_X6_isClause.2.1 km_X6_isClause.2.2.1 km_X6_isClause.2.2.2.1) := rfl
set_option maxRecDepth 100000 in
theorem kc_X6_has : lw_tbl[244]? = some (Cond.code km_X6_has.1 km_X6_has.2.1 km_X6_has.2.2.1 km_X6_has.2.2.2.1) := rfl
set_option maxRecDepth 100000 in
theorem kc_X6_nthOf : lw_tbl[501]? = some (Cond.code km_X6_nthOf.1 km_X6_nthOf.2.1 km_X6_nthOf.2.2.1 km_X6_nthOf.2.2.2.1) := rfl
set_option maxRecDepth 100000 in
theorem kc_X6_powerOf : lw_tbl[529]? = some (Cond.code km_X6_powerOf.1 km_X6_powerOf.2.1 km_X6_powerOf.2.2.1 km_X6_powerOf.2.2.2.1) := rfl
set_option maxRecDepth 100000 in
theorem kc_X6_lowestPartOf : lw_tbl[532]? = some (Cond.code km_X6_lowestPartOf.1 km_X6_lowestPartOf.2.1 km_X6_lowestPartOf.2.2.1 km_X6_lowestPartOf.2.2.2.1) := rfl
set_option maxRecDepth 100000 in
theorem kc_X6_areForces : lw_tbl[570]? = some (Cond.code km_X6_areForces.1 km_X6_areForces.2.1 km_X6_areForces.2.2.1 km_X6_areForces.2.2.2.1) := rfl
set_option maxRecDepth 100000 in
theorem kc_X6_kindsFelt : lw_tbl[579]? = some (Cond.code km_X6_kindsFelt.1 km_X6_kindsFelt.2.1 km_X6_kindsFelt.2.2.1 km_X6_kindsFelt.2.2.2.1) := rfl
set_option maxRecDepth 100000 in
theorem kc_X6_holdsFelt : lw_tbl[588]? = some (Cond.code km_X6_holdsFelt.1 km_X6_holdsFelt.2.1 km_X6_holdsFelt.2.2.1 km_X6_holdsFelt.2.2.2.1) := rfl
set_option maxRecDepth 100000 in
theorem kc_X6_isAsTold : lw_tbl[584]? = some (Cond.code km_X6_isAsTold.1 km_X6_isAsTold.2.1 km_X6_isAsTold.2.2.1 km_X6_isAsTold.2.2.2.1) := rfl
set_option maxRecDepth 100000 in
theorem kc_X7_init : lw_tbl[634]? = some (Cond.code km_X7_init.1 km_X7_init.2.1 km_X7_init.2.2.1 km_X7_init.2.2.2.1) := rfl
set_option maxRecDepth 100000 in
theorem kc_X7_in : lw_tbl[686]? = some (Cond.code km_X7_in.1 km_X7_in.2.1 km_X7_in.2.2.1 km_X7_in.2.2.2.1) := rfl
set_option maxRecDepth 100000 in
theorem kc_X7_has : lw_tbl[703]? = some (Cond.code km_X7_has.1 km_X7_has.2.1 km_X7_has.2.2.1 km_X7_has.2.2.2.1) := rfl
set_option maxRecDepth 100000 in
theorem kc_X7_bits : lw_tbl[851]? = some (Cond.code km_X7_bits.1 km_X7_bits.2.1 km_X7_bits.2.2.1 km_X7_bits.2.2.2.1) := rfl
set_option maxRecDepth 100000 in
theorem kc_X7_bring : lw_tbl[759]? = some (Cond.code km_X7_bring.1 km_X7_bring.2.1 km_X7_bring.2.2.1 km_X7_bring.2.2.2.1) := rfl
set_option maxRecDepth 100000 in
theorem kc_X7_isClause : lw_tbl[697]? = some (Cond.code km_X7_isClause.1 km_X7_isClause.2.1 km_X7_isClause.2.2.1 km_X7_isClause.2.2.2.1) := rfl
set_option maxRecDepth 100000 in
theorem kc_X7_add : lw_tbl[689]? = some (Cond.code km_X7_add.1 km_X7_add.2.1 km_X7_add.2.2.1 km_X7_add.2.2.2.1) := rfl
set_option maxRecDepth 100000 in
theorem kc_X7_clause : lw_tbl[683]? = some (Cond.code km_X7_clause.1 km_X7_clause.2.1 km_X7_clause.2.2.1 km_X7_clause.2.2.2.1) := rfl
set_option maxRecDepth 100000 in
theorem kc_X7_firmBy : lw_tbl[709]? = some (Cond.code km_X7_firmBy.1 km_X7_firmBy.2.1 km_X7_firmBy.2.2.1 km_X7_firmBy.2.2.2.1) := rfl
set_option maxRecDepth 100000 in
theorem kc_X7_firm : lw_tbl[706]? = some (Cond.code km_X7_firm.1 km_X7_firm.2.1 km_X7_firm.2.2.1 km_X7_firm.2.2.2.1) := rfl
set_option maxRecDepth 100000 in
theorem kc_X7_isFree : lw_tbl[700]? = some (Cond.code km_X7_isFree.1 km_X7_isFree.2.1 km_X7_isFree.2.2.1 km_X7_isFree.2.2.2.1) := rfl
set_option maxRecDepth 100000 in
theorem kc_X7_of : lw_tbl[693]? = some (Cond.code km_X7_of.1 km_X7_of.2.1 km_X7_of.2.2.1 km_X7_of.2.2.2.1) := rfl
set_option maxRecDepth 100000 in
theorem kc_X7_owedBy : lw_tbl[717]? = some (Cond.code km_X7_owedBy.1 km_X7_owedBy.2.1 km_X7_owedBy.2.2.1 km_X7_owedBy.2.2.2.1) := rfl
set_option maxRecDepth 100000 in
theorem kc_X7_party : lw_tbl[713]? = some (Cond.code km_X7_party.1 km_X7_party.2.1 km_X7_party.2.2.1 km_X7_party.2.2.2.1) := rfl
set_option maxRecDepth 100000 in
theorem kc_X7_owe : lw_tbl[721]? = some (Cond.code km_X7_owe.1 km_X7_owe.2.1 km_X7_owe.2.2.1 km_X7_owe.2.2.2.1) := rfl
set_option maxRecDepth 100000 in
theorem kc_X7_type : lw_tbl[725]? = some (Cond.code km_X7_type.1 km_X7_type.2.1 km_X7_type.2.2.1 km_X7_type.2.2.2.1) := rfl
set_option maxRecDepth 100000 in
theorem kc_X7_peek : lw_tbl[741]? = some (Cond.code km_X7_peek.1 km_X7_peek.2.1 km_X7_peek.2.2.1 km_X7_peek.2.2.2.1) := rfl
set_option maxRecDepth 100000 in
theorem kc_X7_isSign : lw_tbl[756]? = some (Cond.code km_X7_isSign.1 km_X7_isSign.2.1 km_X7_isSign.2.2.1 km_X7_isSign.2.2.2.1) := rfl
set_option maxRecDepth 100000 in
theorem kc_X7_isDigit : lw_tbl[752]? = some (Cond.code km_X7_isDigit.1 km_X7_isDigit.2.1 km_X7_isDigit.2.2.1 km_X7_isDigit.2.2.2.1) := rfl
set_option maxRecDepth 100000 in
theorem kc_X7_isNumber : lw_tbl[748]? = some (Cond.code km_X7_isNumber.1 km_X7_isNumber.2.1 km_X7_isNumber.2.2.1 km_X7_isNumber.2.2.2.1) := rfl
set_option maxRecDepth 100000 in
theorem kc_X7_kindBy : lw_tbl[744]? = some (Cond.code km_X7_kindBy.1 km_X7_kindBy.2.1 km_X7_kindBy.2.2.1 km_X7_kindBy.2.2.2.1) := rfl
set_option maxRecDepth 100000 in
theorem kc_X7_isClauseItem : lw_tbl[737]? = some (Cond.code km_X7_isClauseItem.1 km_X7_isClauseItem.2.1 km_X7_isClauseItem.2.2.1 km_X7_isClauseItem.2.2.2.1) := rfl
set_option maxRecDepth 100000 in
theorem kc_X7_isAgreement : lw_tbl[733]? = some (Cond.code km_X7_isAgreement.1 km_X7_isAgreement.2.1 km_X7_isAgreement.2.2.1 km_X7_isAgreement.2.2.2.1) := rfl
set_option maxRecDepth 100000 in
theorem kc_X7_agreement : lw_tbl[729]? = some (Cond.code km_X7_agreement.1 km_X7_agreement.2.1 km_X7_agreement.2.2.1 km_X7_agreement.2.2.2.1) := rfl
set_option maxRecDepth 100000 in
theorem kc_X7_freeIn : lw_tbl[766]? = some (Cond.code km_X7_freeIn.1 km_X7_freeIn.2.1 km_X7_freeIn.2.2.1 km_X7_freeIn.2.2.2.1) := rfl
set_option maxRecDepth 100000 in
theorem kc_X7_boundOnes : lw_tbl[770]? = some (Cond.code km_X7_boundOnes.1 km_X7_boundOnes.2.1 km_X7_boundOnes.2.2.1 km_X7_boundOnes.2.2.2.1) := rfl
set_option maxRecDepth 100000 in
theorem kc_X7_count : lw_tbl[763]? = some (Cond.code km_X7_count.1 km_X7_count.2.1 km_X7_count.2.2.1 km_X7_count.2.2.2.1) := rfl
set_option maxRecDepth 100000 in
theorem kc_X7_note : lw_tbl[778]? = some (Cond.code km_X7_note.1 km_X7_note.2.1 km_X7_note.2.2.1 km_X7_note.2.2.2.1) := rfl
set_option maxRecDepth 100000 in
theorem kc_X7_fallsIn : lw_tbl[784]? = some (Cond.code km_X7_fallsIn.1 km_X7_fallsIn.2.1 km_X7_fallsIn.2.2.1 km_X7_fallsIn.2.2.2.1) := rfl
set_option maxRecDepth 100000 in
theorem kc_X7_pullIn : lw_tbl[781]? = some (Cond.code km_X7_pullIn.1 km_X7_pullIn.2.1 km_X7_pullIn.2.2.1 km_X7_pullIn.2.2.2.1) := rfl
set_option maxRecDepth 100000 in
theorem kc_X7_pull : lw_tbl[774]? = some (Cond.code km_X7_pull.1 km_X7_pull.2.1 km_X7_pull.2.2.1 km_X7_pull.2.2.2.1) := rfl
set_option maxRecDepth 100000 in
theorem kc_X7_cut : lw_tbl[788]? = some (Cond.code km_X7_cut.1 km_X7_cut.2.1 km_X7_cut.2.2.1 km_X7_cut.2.2.2.1) := rfl
set_option maxRecDepth 100000 in
theorem kc_X7_tie : lw_tbl[792]? = some (Cond.code km_X7_tie.1 km_X7_tie.2.1 km_X7_tie.2.2.1 km_X7_tie.2.2.2.1) := rfl
set_option maxRecDepth 100000 in
theorem kc_X7_wet : lw_tbl[796]? = some (Cond.code km_X7_wet.1 km_X7_wet.2.1 km_X7_wet.2.2.1 km_X7_wet.2.2.2.1) := rfl
set_option maxRecDepth 100000 in
theorem kc_X7_days : lw_tbl[800]? = some (Cond.code km_X7_days.1 km_X7_days.2.1 km_X7_days.2.2.1 km_X7_days.2.2.2.1) := rfl
set_option maxRecDepth 100000 in
theorem kc_X7_drift : lw_tbl[804]? = some (Cond.code km_X7_drift.1 km_X7_drift.2.1 km_X7_drift.2.2.1 km_X7_drift.2.2.2.1) := rfl
set_option maxRecDepth 100000 in
theorem kc_X7_undo : lw_tbl[812]? = some (Cond.code km_X7_undo.1 km_X7_undo.2.1 km_X7_undo.2.2.1 km_X7_undo.2.2.2.1) := rfl
set_option maxRecDepth 100000 in
theorem kc_X7_seed : lw_tbl[816]? = some (Cond.code km_X7_seed.1 km_X7_seed.2.1 km_X7_seed.2.2.1 km_X7_seed.2.2.2.1) := rfl
set_option maxRecDepth 100000 in
theorem kc_X7_begin : lw_tbl[828]? = some (Cond.code km_X7_begin.1 km_X7_begin.2.1 km_X7_begin.2.2.1 km_X7_begin.2.2.2.1) := rfl
set_option maxRecDepth 100000 in
theorem kc_X7_falls : lw_tbl[820]? = some (Cond.code km_X7_falls.1 km_X7_falls.2.1 km_X7_falls.2.2.1 km_X7_falls.2.2.2.1) := rfl
set_option maxRecDepth 100000 in
theorem kc_X7_pulls : lw_tbl[824]? = some (Cond.code km_X7_pulls.1 km_X7_pulls.2.1 km_X7_pulls.2.2.1 km_X7_pulls.2.2.2.1) := rfl
set_option maxRecDepth 100000 in
theorem kc_X7_force : lw_tbl[832]? = some (Cond.code km_X7_force.1 km_X7_force.2.1 km_X7_force.2.2.1 km_X7_force.2.2.2.1) := rfl
set_option maxRecDepth 100000 in
theorem kc_X7_needsOf : lw_tbl[840]? = some (Cond.code km_X7_needsOf.1 km_X7_needsOf.2.1 km_X7_needsOf.2.2.1 km_X7_needsOf.2.2.2.1) := rfl
set_option maxRecDepth 100000 in
theorem kc_X7_needs : lw_tbl[836]? = some (Cond.code km_X7_needs.1 km_X7_needs.2.1 km_X7_needs.2.2.1 km_X7_needs.2.2.2.1) := rfl
set_option maxRecDepth 100000 in
theorem kc_X7_deep : lw_tbl[844]? = some (Cond.code km_X7_deep.1 km_X7_deep.2.1 km_X7_deep.2.2.1 km_X7_deep.2.2.2.1) := rfl
set_option maxRecDepth 100000 in
theorem kc_X7_frees : lw_tbl[848]? = some (Cond.code km_X7_frees.1 km_X7_frees.2.1 km_X7_frees.2.2.1 km_X7_frees.2.2.2.1) := rfl
set_option maxRecDepth 100000 in
theorem kc_X7_layWays : lw_tbl[859]? = some (Cond.code km_X7_layWays.1 km_X7_layWays.2.1 km_X7_layWays.2.2.1 km_X7_layWays.2.2.2.1) := rfl
set_option maxRecDepth 100000 in
theorem kc_X7_orders : lw_tbl[855]? = some (Cond.code km_X7_orders.1 km_X7_orders.2.1 km_X7_orders.2.2.1 km_X7_orders.2.2.2.1) := rfl
set_option maxRecDepth 100000 in
theorem kc_X7_partOf : lw_tbl[866]? = some (Cond.code km_X7_partOf.1 km_X7_partOf.2.1 km_X7_partOf.2.2.1 km_X7_partOf.2.2.2.1) := rfl
set_option maxRecDepth 100000 in
theorem kc_X7_ahead : lw_tbl[863]? = some (Cond.code km_X7_ahead.1 km_X7_ahead.2.1 km_X7_ahead.2.2.1 km_X7_ahead.2.2.2.1) := rfl
set_option maxRecDepth 100000 in
theorem kc_X7_game : lw_tbl[870]? = some (Cond.code km_X7_game.1 km_X7_game.2.1 km_X7_game.2.2.1 km_X7_game.2.2.2.1) := rfl
set_option maxRecDepth 100000 in
theorem kc_X7_cuts : lw_tbl[874]? = some (Cond.code km_X7_cuts.1 km_X7_cuts.2.1 km_X7_cuts.2.2.1 km_X7_cuts.2.2.2.1) := rfl
set_option maxRecDepth 100000 in
theorem kc_X7_weather : lw_tbl[878]? = some (Cond.code km_X7_weather.1 km_X7_weather.2.1 km_X7_weather.2.2.1 km_X7_weather.2.2.2.1) := rfl
set_option maxRecDepth 100000 in
theorem kc_X7_rotten : lw_tbl[882]? = some (Cond.code km_X7_rotten.1 km_X7_rotten.2.1 km_X7_rotten.2.2.1 km_X7_rotten.2.2.2.1) := rfl
set_option maxRecDepth 100000 in
theorem kc_X7_image : lw_tbl[886]? = some (Cond.code km_X7_image.1 km_X7_image.2.1 km_X7_image.2.2.1 km_X7_image.2.2.2.1) := rfl
set_option maxRecDepth 100000 in
theorem kc_X7_restore : lw_tbl[890]? = some (Cond.code km_X7_restore.1 km_X7_restore.2.1 km_X7_restore.2.2.1 km_X7_restore.2.2.2.1) := rfl
set_option maxRecDepth 100000 in
theorem kc_X7_isSheet : lw_tbl[897]? = some (Cond.code km_X7_isSheet.1 km_X7_isSheet.2.1 km_X7_isSheet.2.2.1 km_X7_isSheet.2.2.2.1) := rfl
set_option maxRecDepth 100000 in
theorem kc_X7_isPart : lw_tbl[904]? = some (Cond.code km_X7_isPart.1 km_X7_isPart.2.1 km_X7_isPart.2.2.1 km_X7_isPart.2.2.2.1) := rfl
set_option maxRecDepth 100000 in
theorem kc_X7_wrong : lw_tbl[901]? = some (Cond.code km_X7_wrong.1 km_X7_wrong.2.1 km_X7_wrong.2.2.1 km_X7_wrong.2.2.2.1) := rfl
set_option maxRecDepth 100000 in
theorem kc_X7_felt : lw_tbl[894]? = some (Cond.code km_X7_felt.1 km_X7_felt.2.1 km_X7_felt.2.2.1 km_X7_felt.2.2.2.1) := rfl
set_option maxRecDepth 100000 in
theorem kc_X7_film : lw_tbl[909]? = some (Cond.code km_X7_film.1 km_X7_film.2.1 km_X7_film.2.2.1 km_X7_film.2.2.2.1) := rfl
set_option maxRecDepth 100000 in
theorem kc_X7_sheet : lw_tbl[913]? = some (Cond.code km_X7_sheet.1 km_X7_sheet.2.1 km_X7_sheet.2.2.1 km_X7_sheet.2.2.2.1) := rfl
set_option maxRecDepth 100000 in
theorem kc_X7_drop : lw_tbl[917]? = some (Cond.code km_X7_drop.1 km_X7_drop.2.1 km_X7_drop.2.2.1 km_X7_drop.2.2.2.1) := rfl
set_option maxRecDepth 100000 in
theorem kc_X7_item : lw_tbl[921]? = some (Cond.code km_X7_item.1 km_X7_item.2.1 km_X7_item.2.2.1 km_X7_item.2.2.2.1) := rfl
set_option maxRecDepth 100000 in
theorem kc_X7_copy : lw_tbl[925]? = some (Cond.code km_X7_copy.1 km_X7_copy.2.1 km_X7_copy.2.2.1 km_X7_copy.2.2.2.1) := rfl
set_option maxRecDepth 100000 in
theorem kc_J6_bitCount_0f7a4 : lw_tbl[475]? = some (Cond.code km_J6_bitCount_0f7a4.1 km_J6_bitCount_0f7a4.2.1 km_J6_bitCount_0f7a4.2.2.1 km_J6_bitCount_0f7a4.2.2.2.1) := rfl
theorem kn_T_ok : ∀ M1 ∈ kn_T, Cond.code M1.1 M1.2.1 M1.2.2.1 M1.2.2.2.1 ∈ kn_Tg ∧ plainName M1.1.cls = true ∧ kn_okM kn_cl lw_tbl kn_Ns kn_T M1 = true := by
  unfold kn_T
  refine List.forall_mem_cons.mpr ⟨⟨kn_Tg_code kc_X0_init, by decide +kernel, ok_X0_init⟩, ?_⟩
  refine List.forall_mem_cons.mpr ⟨⟨kn_Tg_code kc_X0_add, by decide +kernel, ok_X0_add⟩, ?_⟩
  refine List.forall_mem_cons.mpr ⟨⟨kn_Tg_code kc_X0_owedBy, by decide +kernel, ok_X0_owedBy⟩, ?_⟩
  refine List.forall_mem_cons.mpr ⟨⟨kn_Tg_code kc_X0_become, by decide +kernel, ok_X0_become⟩, ?_⟩
  refine List.forall_mem_cons.mpr ⟨⟨kn_Tg_code kc_X1_init, by decide +kernel, ok_X1_init⟩, ?_⟩
  refine List.forall_mem_cons.mpr ⟨⟨kn_Tg_code kc_X1_depthOf, by decide +kernel, ok_X1_depthOf⟩, ?_⟩
  refine List.forall_mem_cons.mpr ⟨⟨kn_Tg_code kc_X1_deepest, by decide +kernel, ok_X1_deepest⟩, ?_⟩
  refine List.forall_mem_cons.mpr ⟨⟨kn_Tg_code kc_X1_fillDepths, by decide +kernel, ok_X1_fillDepths⟩, ?_⟩
  refine List.forall_mem_cons.mpr ⟨⟨kn_Tg_code kc_X1_deepestAmong, by decide +kernel, ok_X1_deepestAmong⟩, ?_⟩
  refine List.forall_mem_cons.mpr ⟨⟨kn_Tg_code kc_X1_countOrders, by decide +kernel, ok_X1_countOrders⟩, ?_⟩
  refine List.forall_mem_cons.mpr ⟨⟨kn_Tg_code kc_X1_countOrdersWith, by decide +kernel, ok_X1_countOrdersWith⟩, ?_⟩
  refine List.forall_mem_cons.mpr ⟨⟨kn_Tg_code kc_X1_fillBars, by decide +kernel, ok_X1_fillBars⟩, ?_⟩
  refine List.forall_mem_cons.mpr ⟨⟨kn_Tg_code kc_X1_countWays, by decide +kernel, ok_X1_countWays⟩, ?_⟩
  refine List.forall_mem_cons.mpr ⟨⟨kn_Tg_code kc_X1_waysTo, by decide +kernel, ok_X1_waysTo⟩, ?_⟩
  refine List.forall_mem_cons.mpr ⟨⟨kn_Tg_code kc_X2_init, by decide +kernel, ok_X2_init⟩, ?_⟩
  refine List.forall_mem_cons.mpr ⟨⟨kn_Tg_code kc_X2_makeRoom, by decide +kernel, ok_X2_makeRoom⟩, ?_⟩
  refine List.forall_mem_cons.mpr ⟨⟨kn_Tg_code kc_X2_become, by decide +kernel, ok_X2_become⟩, ?_⟩
  refine List.forall_mem_cons.mpr ⟨⟨kn_Tg_code kc_X3_init, by decide +kernel, ok_X3_init⟩, ?_⟩
  refine List.forall_mem_cons.mpr ⟨⟨kn_Tg_code kc_X3_addLetter, by decide +kernel, ok_X3_addLetter⟩, ?_⟩
  refine List.forall_mem_cons.mpr ⟨⟨kn_Tg_code kc_X3_readTape, by decide +kernel, ok_X3_readTape⟩, ?_⟩
  refine List.forall_mem_cons.mpr ⟨⟨kn_Tg_code kc_X3_readClauses, by decide +kernel, ok_X3_readClauses⟩, ?_⟩
  refine List.forall_mem_cons.mpr ⟨⟨kn_Tg_code kc_X3_readClause, by decide +kernel, ok_X3_readClause⟩, ?_⟩
  refine List.forall_mem_cons.mpr ⟨⟨kn_Tg_code kc_X3_readHolds, by decide +kernel, ok_X3_readHolds⟩, ?_⟩
  refine List.forall_mem_cons.mpr ⟨⟨kn_Tg_code kc_X3_readBarred, by decide +kernel, ok_X3_readBarred⟩, ?_⟩
  refine List.forall_mem_cons.mpr ⟨⟨kn_Tg_code kc_X3_nextLetter, by decide +kernel, ok_X3_nextLetter⟩, ?_⟩
  refine List.forall_mem_cons.mpr ⟨⟨kn_Tg_code kc_X3_letterAt, by decide +kernel, ok_X3_letterAt⟩, ?_⟩
  refine List.forall_mem_cons.mpr ⟨⟨kn_Tg_code kc_X3_isDigit, by decide +kernel, ok_X3_isDigit⟩, ?_⟩
  refine List.forall_mem_cons.mpr ⟨⟨kn_Tg_code kc_X3_kindOf, by decide +kernel, ok_X3_kindOf⟩, ?_⟩
  refine List.forall_mem_cons.mpr ⟨⟨kn_Tg_code kc_X4_init, by decide +kernel, ok_X4_init⟩, ?_⟩
  refine List.forall_mem_cons.mpr ⟨⟨kn_Tg_code kc_X4_addClause, by decide +kernel, ok_X4_addClause⟩, ?_⟩
  refine List.forall_mem_cons.mpr ⟨⟨kn_Tg_code kc_X4_startWith, by decide +kernel, ok_X4_startWith⟩, ?_⟩
  refine List.forall_mem_cons.mpr ⟨⟨kn_Tg_code kc_X4_become, by decide +kernel, ok_X4_become⟩, ?_⟩
  refine List.forall_mem_cons.mpr ⟨⟨kn_Tg_code kc_X4_firmBy, by decide +kernel, ok_X4_firmBy⟩, ?_⟩
  refine List.forall_mem_cons.mpr ⟨⟨kn_Tg_code kc_X4_firmOnDay, by decide +kernel, ok_X4_firmOnDay⟩, ?_⟩
  refine List.forall_mem_cons.mpr ⟨⟨kn_Tg_code kc_X4_firmOf, by decide +kernel, ok_X4_firmOf⟩, ?_⟩
  refine List.forall_mem_cons.mpr ⟨⟨kn_Tg_code kc_X4_firmTogether, by decide +kernel, ok_X4_firmTogether⟩, ?_⟩
  refine List.forall_mem_cons.mpr ⟨⟨kn_Tg_code kc_X4_weigh, by decide +kernel, ok_X4_weigh⟩, ?_⟩
  refine List.forall_mem_cons.mpr ⟨⟨kn_Tg_code kc_X4_freeAmong, by decide +kernel, ok_X4_freeAmong⟩, ?_⟩
  refine List.forall_mem_cons.mpr ⟨⟨kn_Tg_code kc_X4_fallsAmong, by decide +kernel, ok_X4_fallsAmong⟩, ?_⟩
  refine List.forall_mem_cons.mpr ⟨⟨kn_Tg_code kc_X4_boundParties, by decide +kernel, ok_X4_boundParties⟩, ?_⟩
  refine List.forall_mem_cons.mpr ⟨⟨kn_Tg_code kc_X4_neededFor, by decide +kernel, ok_X4_neededFor⟩, ?_⟩
  refine List.forall_mem_cons.mpr ⟨⟨kn_Tg_code kc_X4_firmestUpTo, by decide +kernel, ok_X4_firmestUpTo⟩, ?_⟩
  refine List.forall_mem_cons.mpr ⟨⟨kn_Tg_code kc_X4_undoBy, by decide +kernel, ok_X4_undoBy⟩, ?_⟩
  refine List.forall_mem_cons.mpr ⟨⟨kn_Tg_code kc_X4_driftOneDay, by decide +kernel, ok_X4_driftOneDay⟩, ?_⟩
  refine List.forall_mem_cons.mpr ⟨⟨kn_Tg_code kc_X4_remember, by decide +kernel, ok_X4_remember⟩, ?_⟩
  refine List.forall_mem_cons.mpr ⟨⟨kn_Tg_code kc_X4_takeBack, by decide +kernel, ok_X4_takeBack⟩, ?_⟩
  refine List.forall_mem_cons.mpr ⟨⟨kn_Tg_code kc_X5_init, by decide +kernel, ok_X5_init⟩, ?_⟩
  refine List.forall_mem_cons.mpr ⟨⟨kn_Tg_code kc_X5_lay, by decide +kernel, ok_X5_lay⟩, ?_⟩
  refine List.forall_mem_cons.mpr ⟨⟨kn_Tg_code kc_X5_takeAway, by decide +kernel, ok_X5_takeAway⟩, ?_⟩
  refine List.forall_mem_cons.mpr ⟨⟨kn_Tg_code kc_X5_faultOf, by decide +kernel, ok_X5_faultOf⟩, ?_⟩
  refine List.forall_mem_cons.mpr ⟨⟨kn_Tg_code kc_X5_isInside, by decide +kernel, ok_X5_isInside⟩, ?_⟩
  refine List.forall_mem_cons.mpr ⟨⟨kn_Tg_code kc_X5_get, by decide +kernel, ok_X5_get⟩, ?_⟩
  refine List.forall_mem_cons.mpr ⟨⟨kn_Tg_code kc_X5_put, by decide +kernel, ok_X5_put⟩, ?_⟩
  refine List.forall_mem_cons.mpr ⟨⟨kn_Tg_code kc_X5_lowestBits, by decide +kernel, ok_X5_lowestBits⟩, ?_⟩
  refine List.forall_mem_cons.mpr ⟨⟨kn_Tg_code kc_X5_carry, by decide +kernel, ok_X5_carry⟩, ?_⟩
  refine List.forall_mem_cons.mpr ⟨⟨kn_Tg_code kc_X6_init, by decide +kernel, ok_X6_init⟩, ?_⟩
  refine List.forall_mem_cons.mpr ⟨⟨kn_Tg_code kc_X6_clause, by decide +kernel, ok_X6_clause⟩, ?_⟩
  refine List.forall_mem_cons.mpr ⟨⟨kn_Tg_code kc_X6_of, by decide +kernel, ok_X6_of⟩, ?_⟩
  refine List.forall_mem_cons.mpr ⟨⟨kn_Tg_code kc_X6_party, by decide +kernel, ok_X6_party⟩, ?_⟩
  refine List.forall_mem_cons.mpr ⟨⟨kn_Tg_code kc_X6_owe, by decide +kernel, ok_X6_owe⟩, ?_⟩
  refine List.forall_mem_cons.mpr ⟨⟨kn_Tg_code kc_X6_type, by decide +kernel, ok_X6_type⟩, ?_⟩
  refine List.forall_mem_cons.mpr ⟨⟨kn_Tg_code kc_X6_agreement, by decide +kernel, ok_X6_agreement⟩, ?_⟩
  refine List.forall_mem_cons.mpr ⟨⟨kn_Tg_code kc_X6_count, by decide +kernel, ok_X6_count⟩, ?_⟩
  refine List.forall_mem_cons.mpr ⟨⟨kn_Tg_code kc_X6_pull, by decide +kernel, ok_X6_pull⟩, ?_⟩
  refine List.forall_mem_cons.mpr ⟨⟨kn_Tg_code kc_X6_cut, by decide +kernel, ok_X6_cut⟩, ?_⟩
  refine List.forall_mem_cons.mpr ⟨⟨kn_Tg_code kc_X6_tie, by decide +kernel, ok_X6_tie⟩, ?_⟩
  refine List.forall_mem_cons.mpr ⟨⟨kn_Tg_code kc_X6_wet, by decide +kernel, ok_X6_wet⟩, ?_⟩
  refine List.forall_mem_cons.mpr ⟨⟨kn_Tg_code kc_X6_days, by decide +kernel, ok_X6_days⟩, ?_⟩
  refine List.forall_mem_cons.mpr ⟨⟨kn_Tg_code kc_X6_drift, by decide +kernel, ok_X6_drift⟩, ?_⟩
  refine List.forall_mem_cons.mpr ⟨⟨kn_Tg_code kc_X6_undo, by decide +kernel, ok_X6_undo⟩, ?_⟩
  refine List.forall_mem_cons.mpr ⟨⟨kn_Tg_code kc_X6_seed, by decide +kernel, ok_X6_seed⟩, ?_⟩
  refine List.forall_mem_cons.mpr ⟨⟨kn_Tg_code kc_X6_falls, by decide +kernel, ok_X6_falls⟩, ?_⟩
  refine List.forall_mem_cons.mpr ⟨⟨kn_Tg_code kc_X6_pulls, by decide +kernel, ok_X6_pulls⟩, ?_⟩
  refine List.forall_mem_cons.mpr ⟨⟨kn_Tg_code kc_X6_force, by decide +kernel, ok_X6_force⟩, ?_⟩
  refine List.forall_mem_cons.mpr ⟨⟨kn_Tg_code kc_X6_needs, by decide +kernel, ok_X6_needs⟩, ?_⟩
  refine List.forall_mem_cons.mpr ⟨⟨kn_Tg_code kc_X6_deep, by decide +kernel, ok_X6_deep⟩, ?_⟩
  refine List.forall_mem_cons.mpr ⟨⟨kn_Tg_code kc_X6_frees, by decide +kernel, ok_X6_frees⟩, ?_⟩
  refine List.forall_mem_cons.mpr ⟨⟨kn_Tg_code kc_X6_orders, by decide +kernel, ok_X6_orders⟩, ?_⟩
  refine List.forall_mem_cons.mpr ⟨⟨kn_Tg_code kc_X6_ahead, by decide +kernel, ok_X6_ahead⟩, ?_⟩
  refine List.forall_mem_cons.mpr ⟨⟨kn_Tg_code kc_X6_game, by decide +kernel, ok_X6_game⟩, ?_⟩
  refine List.forall_mem_cons.mpr ⟨⟨kn_Tg_code kc_X6_cuts, by decide +kernel, ok_X6_cuts⟩, ?_⟩
  refine List.forall_mem_cons.mpr ⟨⟨kn_Tg_code kc_X6_weather, by decide +kernel, ok_X6_weather⟩, ?_⟩
  refine List.forall_mem_cons.mpr ⟨⟨kn_Tg_code kc_X6_rotten, by decide +kernel, ok_X6_rotten⟩, ?_⟩
  refine List.forall_mem_cons.mpr ⟨⟨kn_Tg_code kc_X6_image, by decide +kernel, ok_X6_image⟩, ?_⟩
  refine List.forall_mem_cons.mpr ⟨⟨kn_Tg_code kc_X6_restore, by decide +kernel, ok_X6_restore⟩, ?_⟩
  refine List.forall_mem_cons.mpr ⟨⟨kn_Tg_code kc_X6_felt, by decide +kernel, ok_X6_felt⟩, ?_⟩
  refine List.forall_mem_cons.mpr ⟨⟨kn_Tg_code kc_X6_film, by decide +kernel, ok_X6_film⟩, ?_⟩
  refine List.forall_mem_cons.mpr ⟨⟨kn_Tg_code kc_X6_sheet, by decide +kernel, ok_X6_sheet⟩, ?_⟩
  refine List.forall_mem_cons.mpr ⟨⟨kn_Tg_code kc_X6_drop, by decide +kernel, ok_X6_drop⟩, ?_⟩
  refine List.forall_mem_cons.mpr ⟨⟨kn_Tg_code kc_X6_item, by decide +kernel, ok_X6_item⟩, ?_⟩
  refine List.forall_mem_cons.mpr ⟨⟨kn_Tg_code kc_X6_copy, by decide +kernel, ok_X6_copy⟩, ?_⟩
  refine List.forall_mem_cons.mpr ⟨⟨kn_Tg_code kc_X6_isWithin, by decide +kernel, ok_X6_isWithin⟩, ?_⟩
  refine List.forall_mem_cons.mpr ⟨⟨kn_Tg_code kc_X6_isForce, by decide +kernel, ok_X6_isForce⟩, ?_⟩
  refine List.forall_mem_cons.mpr ⟨⟨kn_Tg_code kc_X6_isParty, by decide +kernel, ok_X6_isParty⟩, ?_⟩
  refine List.forall_mem_cons.mpr ⟨⟨kn_Tg_code kc_X6_isSheet, by decide +kernel, ok_X6_isSheet⟩, ?_⟩
  refine List.forall_mem_cons.mpr ⟨⟨kn_Tg_code kc_X6_isLane, by decide +kernel, ok_X6_isLane⟩, ?_⟩
  refine List.forall_mem_cons.mpr ⟨⟨kn_Tg_code kc_X6_isClause, by decide +kernel, ok_X6_isClause⟩, ?_⟩
  refine List.forall_mem_cons.mpr ⟨⟨kn_Tg_code kc_X6_has, by decide +kernel, ok_X6_has⟩, ?_⟩
  refine List.forall_mem_cons.mpr ⟨⟨kn_Tg_code kc_X6_nthOf, by decide +kernel, ok_X6_nthOf⟩, ?_⟩
  refine List.forall_mem_cons.mpr ⟨⟨kn_Tg_code kc_X6_powerOf, by decide +kernel, ok_X6_powerOf⟩, ?_⟩
  refine List.forall_mem_cons.mpr ⟨⟨kn_Tg_code kc_X6_lowestPartOf, by decide +kernel, ok_X6_lowestPartOf⟩, ?_⟩
  refine List.forall_mem_cons.mpr ⟨⟨kn_Tg_code kc_X6_areForces, by decide +kernel, ok_X6_areForces⟩, ?_⟩
  refine List.forall_mem_cons.mpr ⟨⟨kn_Tg_code kc_X6_kindsFelt, by decide +kernel, ok_X6_kindsFelt⟩, ?_⟩
  refine List.forall_mem_cons.mpr ⟨⟨kn_Tg_code kc_X6_holdsFelt, by decide +kernel, ok_X6_holdsFelt⟩, ?_⟩
  refine List.forall_mem_cons.mpr ⟨⟨kn_Tg_code kc_X6_isAsTold, by decide +kernel, ok_X6_isAsTold⟩, ?_⟩
  refine List.forall_mem_cons.mpr ⟨⟨kn_Tg_code kc_X7_init, by decide +kernel, ok_X7_init⟩, ?_⟩
  refine List.forall_mem_cons.mpr ⟨⟨kn_Tg_code kc_X7_in, by decide +kernel, ok_X7_in⟩, ?_⟩
  refine List.forall_mem_cons.mpr ⟨⟨kn_Tg_code kc_X7_has, by decide +kernel, ok_X7_has⟩, ?_⟩
  refine List.forall_mem_cons.mpr ⟨⟨kn_Tg_code kc_X7_bits, by decide +kernel, ok_X7_bits⟩, ?_⟩
  refine List.forall_mem_cons.mpr ⟨⟨kn_Tg_code kc_X7_bring, by decide +kernel, ok_X7_bring⟩, ?_⟩
  refine List.forall_mem_cons.mpr ⟨⟨kn_Tg_code kc_X7_isClause, by decide +kernel, ok_X7_isClause⟩, ?_⟩
  refine List.forall_mem_cons.mpr ⟨⟨kn_Tg_code kc_X7_add, by decide +kernel, ok_X7_add⟩, ?_⟩
  refine List.forall_mem_cons.mpr ⟨⟨kn_Tg_code kc_X7_clause, by decide +kernel, ok_X7_clause⟩, ?_⟩
  refine List.forall_mem_cons.mpr ⟨⟨kn_Tg_code kc_X7_firmBy, by decide +kernel, ok_X7_firmBy⟩, ?_⟩
  refine List.forall_mem_cons.mpr ⟨⟨kn_Tg_code kc_X7_firm, by decide +kernel, ok_X7_firm⟩, ?_⟩
  refine List.forall_mem_cons.mpr ⟨⟨kn_Tg_code kc_X7_isFree, by decide +kernel, ok_X7_isFree⟩, ?_⟩
  refine List.forall_mem_cons.mpr ⟨⟨kn_Tg_code kc_X7_of, by decide +kernel, ok_X7_of⟩, ?_⟩
  refine List.forall_mem_cons.mpr ⟨⟨kn_Tg_code kc_X7_owedBy, by decide +kernel, ok_X7_owedBy⟩, ?_⟩
  refine List.forall_mem_cons.mpr ⟨⟨kn_Tg_code kc_X7_party, by decide +kernel, ok_X7_party⟩, ?_⟩
  refine List.forall_mem_cons.mpr ⟨⟨kn_Tg_code kc_X7_owe, by decide +kernel, ok_X7_owe⟩, ?_⟩
  refine List.forall_mem_cons.mpr ⟨⟨kn_Tg_code kc_X7_type, by decide +kernel, ok_X7_type⟩, ?_⟩
  refine List.forall_mem_cons.mpr ⟨⟨kn_Tg_code kc_X7_peek, by decide +kernel, ok_X7_peek⟩, ?_⟩
  refine List.forall_mem_cons.mpr ⟨⟨kn_Tg_code kc_X7_isSign, by decide +kernel, ok_X7_isSign⟩, ?_⟩
  refine List.forall_mem_cons.mpr ⟨⟨kn_Tg_code kc_X7_isDigit, by decide +kernel, ok_X7_isDigit⟩, ?_⟩
  refine List.forall_mem_cons.mpr ⟨⟨kn_Tg_code kc_X7_isNumber, by decide +kernel, ok_X7_isNumber⟩, ?_⟩
  refine List.forall_mem_cons.mpr ⟨⟨kn_Tg_code kc_X7_kindBy, by decide +kernel, ok_X7_kindBy⟩, ?_⟩
  refine List.forall_mem_cons.mpr ⟨⟨kn_Tg_code kc_X7_isClauseItem, by decide +kernel, ok_X7_isClauseItem⟩, ?_⟩
  refine List.forall_mem_cons.mpr ⟨⟨kn_Tg_code kc_X7_isAgreement, by decide +kernel, ok_X7_isAgreement⟩, ?_⟩
  refine List.forall_mem_cons.mpr ⟨⟨kn_Tg_code kc_X7_agreement, by decide +kernel, ok_X7_agreement⟩, ?_⟩
  refine List.forall_mem_cons.mpr ⟨⟨kn_Tg_code kc_X7_freeIn, by decide +kernel, ok_X7_freeIn⟩, ?_⟩
  refine List.forall_mem_cons.mpr ⟨⟨kn_Tg_code kc_X7_boundOnes, by decide +kernel, ok_X7_boundOnes⟩, ?_⟩
  refine List.forall_mem_cons.mpr ⟨⟨kn_Tg_code kc_X7_count, by decide +kernel, ok_X7_count⟩, ?_⟩
  refine List.forall_mem_cons.mpr ⟨⟨kn_Tg_code kc_X7_note, by decide +kernel, ok_X7_note⟩, ?_⟩
  refine List.forall_mem_cons.mpr ⟨⟨kn_Tg_code kc_X7_fallsIn, by decide +kernel, ok_X7_fallsIn⟩, ?_⟩
  refine List.forall_mem_cons.mpr ⟨⟨kn_Tg_code kc_X7_pullIn, by decide +kernel, ok_X7_pullIn⟩, ?_⟩
  refine List.forall_mem_cons.mpr ⟨⟨kn_Tg_code kc_X7_pull, by decide +kernel, ok_X7_pull⟩, ?_⟩
  refine List.forall_mem_cons.mpr ⟨⟨kn_Tg_code kc_X7_cut, by decide +kernel, ok_X7_cut⟩, ?_⟩
  refine List.forall_mem_cons.mpr ⟨⟨kn_Tg_code kc_X7_tie, by decide +kernel, ok_X7_tie⟩, ?_⟩
  refine List.forall_mem_cons.mpr ⟨⟨kn_Tg_code kc_X7_wet, by decide +kernel, ok_X7_wet⟩, ?_⟩
  refine List.forall_mem_cons.mpr ⟨⟨kn_Tg_code kc_X7_days, by decide +kernel, ok_X7_days⟩, ?_⟩
  refine List.forall_mem_cons.mpr ⟨⟨kn_Tg_code kc_X7_drift, by decide +kernel, ok_X7_drift⟩, ?_⟩
  refine List.forall_mem_cons.mpr ⟨⟨kn_Tg_code kc_X7_undo, by decide +kernel, ok_X7_undo⟩, ?_⟩
  refine List.forall_mem_cons.mpr ⟨⟨kn_Tg_code kc_X7_seed, by decide +kernel, ok_X7_seed⟩, ?_⟩
  refine List.forall_mem_cons.mpr ⟨⟨kn_Tg_code kc_X7_begin, by decide +kernel, ok_X7_begin⟩, ?_⟩
  refine List.forall_mem_cons.mpr ⟨⟨kn_Tg_code kc_X7_falls, by decide +kernel, ok_X7_falls⟩, ?_⟩
  refine List.forall_mem_cons.mpr ⟨⟨kn_Tg_code kc_X7_pulls, by decide +kernel, ok_X7_pulls⟩, ?_⟩
  refine List.forall_mem_cons.mpr ⟨⟨kn_Tg_code kc_X7_force, by decide +kernel, ok_X7_force⟩, ?_⟩
  refine List.forall_mem_cons.mpr ⟨⟨kn_Tg_code kc_X7_needsOf, by decide +kernel, ok_X7_needsOf⟩, ?_⟩
  refine List.forall_mem_cons.mpr ⟨⟨kn_Tg_code kc_X7_needs, by decide +kernel, ok_X7_needs⟩, ?_⟩
  refine List.forall_mem_cons.mpr ⟨⟨kn_Tg_code kc_X7_deep, by decide +kernel, ok_X7_deep⟩, ?_⟩
  refine List.forall_mem_cons.mpr ⟨⟨kn_Tg_code kc_X7_frees, by decide +kernel, ok_X7_frees⟩, ?_⟩
  refine List.forall_mem_cons.mpr ⟨⟨kn_Tg_code kc_X7_layWays, by decide +kernel, ok_X7_layWays⟩, ?_⟩
  refine List.forall_mem_cons.mpr ⟨⟨kn_Tg_code kc_X7_orders, by decide +kernel, ok_X7_orders⟩, ?_⟩
  refine List.forall_mem_cons.mpr ⟨⟨kn_Tg_code kc_X7_partOf, by decide +kernel, ok_X7_partOf⟩, ?_⟩
  refine List.forall_mem_cons.mpr ⟨⟨kn_Tg_code kc_X7_ahead, by decide +kernel, ok_X7_ahead⟩, ?_⟩
  refine List.forall_mem_cons.mpr ⟨⟨kn_Tg_code kc_X7_game, by decide +kernel, ok_X7_game⟩, ?_⟩
  refine List.forall_mem_cons.mpr ⟨⟨kn_Tg_code kc_X7_cuts, by decide +kernel, ok_X7_cuts⟩, ?_⟩
  refine List.forall_mem_cons.mpr ⟨⟨kn_Tg_code kc_X7_weather, by decide +kernel, ok_X7_weather⟩, ?_⟩
  refine List.forall_mem_cons.mpr ⟨⟨kn_Tg_code kc_X7_rotten, by decide +kernel, ok_X7_rotten⟩, ?_⟩
  refine List.forall_mem_cons.mpr ⟨⟨kn_Tg_code kc_X7_image, by decide +kernel, ok_X7_image⟩, ?_⟩
  refine List.forall_mem_cons.mpr ⟨⟨kn_Tg_code kc_X7_restore, by decide +kernel, ok_X7_restore⟩, ?_⟩
  refine List.forall_mem_cons.mpr ⟨⟨kn_Tg_code kc_X7_isSheet, by decide +kernel, ok_X7_isSheet⟩, ?_⟩
  refine List.forall_mem_cons.mpr ⟨⟨kn_Tg_code kc_X7_isPart, by decide +kernel, ok_X7_isPart⟩, ?_⟩
  refine List.forall_mem_cons.mpr ⟨⟨kn_Tg_code kc_X7_wrong, by decide +kernel, ok_X7_wrong⟩, ?_⟩
  refine List.forall_mem_cons.mpr ⟨⟨kn_Tg_code kc_X7_felt, by decide +kernel, ok_X7_felt⟩, ?_⟩
  refine List.forall_mem_cons.mpr ⟨⟨kn_Tg_code kc_X7_film, by decide +kernel, ok_X7_film⟩, ?_⟩
  refine List.forall_mem_cons.mpr ⟨⟨kn_Tg_code kc_X7_sheet, by decide +kernel, ok_X7_sheet⟩, ?_⟩
  refine List.forall_mem_cons.mpr ⟨⟨kn_Tg_code kc_X7_drop, by decide +kernel, ok_X7_drop⟩, ?_⟩
  refine List.forall_mem_cons.mpr ⟨⟨kn_Tg_code kc_X7_item, by decide +kernel, ok_X7_item⟩, ?_⟩
  refine List.forall_mem_cons.mpr ⟨⟨kn_Tg_code kc_X7_copy, by decide +kernel, ok_X7_copy⟩, ?_⟩
  refine List.forall_mem_cons.mpr ⟨⟨kn_Tg_code kc_J6_bitCount_0f7a4, by decide +kernel, ok_J6_bitCount_0f7a4⟩, ?_⟩
  exact fun _ h => absurd h List.not_mem_nil
theorem kn_st : kn_St kn_cl lw_tbl kn_Tg kn_Ns kn_T := by
  refine ⟨fun w h1 h2 => kn_Tg_of h1 h2, fun j M1 hj => kn_T_ok M1 (by rw [kn_at_eq] at hj; exact List.mem_of_getElem? hj), ⟨kn_Tg_code (i := 50) (by decide +kernel), kn_Tg_code (i := 437) (by decide +kernel)⟩, fun w hw => kn_Tg_good hw, kn_cl_ok, kn_Ns_ok⟩
theorem kn_arr {ty : FieldType} {s : State} {args : Array Value} (h : (Cond.arrayClass ty).before args s = true) (hra : ∀ x, va_RA s x ty = (s.vm.findClass ("[" ++ ty.toString) = some x)) : ∃ cA : ClassId, ArrOfT s cA ty ∧ va_RA s cA ty := by
  obtain ⟨cA, kA, comp, h1, h2, h3⟩ := Cond.arrayClass_spec h
  exact ⟨cA, fun n z => ⟨fun k h => (by cases h), kA, h2, comp, h3⟩, by rw [hra]; exact h1⟩
set_option maxHeartbeats 4000000 in
/-- the law's walk out of a run of the small machine -/
theorem kn_begin {p : Program} {e : Env} {s : State} {m : MethodId} {below : List Frame} {meth : Method} {c : Code} (l : Launch) {b L : Nat} {xs : Nat → Int32} (C0 : lw_At p s m meth c b L xs) {n : Nat} {h1 : kn_H} {k z : Nat}
    (hrun : kn_run kn_T n km_law (0, [(0, .ref 0)], []) [.inl (.int, L, .inl xs)] = some (some (.int 1), h1, k, z)) (hkk : k ≤ 45) (hzz : z ≤ 1765) :
    W p l e room_1 s m #[Value.ref b] below meth c s.heap [] 0 0 (lw_Z below #[Value.ref b] s) (entryFrame m ([Value.ref b] : List Value).toArray 4) := by
  obtain ⟨hx, hb, hr, hml, hown, hts, hX, hbl, hlocks, hgv⟩ := C0
  obtain ⟨c0, s0, g0⟩ := u_known (C := kR0) (T := kF0) (N := 5) (n := 5) hts (fun w hw => (kn0_in w hw).1) (hts _ (List.mem_of_getElem? (i := 58) (by decide +kernel)))
  obtain ⟨c1, s1, g1⟩ := u_known (C := kR1) (T := kF1) (N := 3) (n := 3) hts (fun w hw => (kn1_in w hw).1) (hts _ (List.mem_of_getElem? (i := 143) (by decide +kernel)))
  obtain ⟨c2, s2, g2⟩ := u_known (C := kR2) (T := kF2) (N := 2) (n := 2) hts (fun w hw => (kn2_in w hw).1) (hts _ (List.mem_of_getElem? (i := 92) (by decide +kernel)))
  obtain ⟨c3, s3, g3⟩ := u_known (C := kR3) (T := kF3) (N := 4) (n := 4) hts (fun w hw => (kn3_in w hw).1) (hts _ (List.mem_of_getElem? (i := 159) (by decide +kernel)))
  obtain ⟨c4, s4, g4⟩ := u_known (C := kR4) (T := kF4) (N := 8) (n := 8) hts (fun w hw => (kn4_in w hw).1) (hts _ (List.mem_of_getElem? (i := 52) (by decide +kernel)))
  obtain ⟨c5, s5, g5⟩ := u_known (C := kR5) (T := kF5) (N := 3) (n := 3) hts (fun w hw => (kn5_in w hw).1) (hts _ (List.mem_of_getElem? (i := 181) (by decide +kernel)))
  obtain ⟨c6, s6, g6⟩ := u_known (C := kR6) (T := kF6) (N := 6) (n := 6) hts (fun w hw => (kn6_in w hw).1) (hts _ (List.mem_of_getElem? (i := 44) (by decide +kernel)))
  obtain ⟨c7, s7, g7⟩ := u_known (C := kR7) (T := kF7) (N := 14) (n := 14) hts (fun w hw => (kn7_in w hw).1) (hts _ (List.mem_of_getElem? (i := 631) (by decide +kernel)))
  obtain ⟨dC, dI, hKc⟩ : ∃ (dC : Nat → ClassId) (dI : Nat → Nat → Nat), ∀ (k : Nat) (q : vw_C), kn_cl[k]? = some q → u_Kn s q.1 q.2.1 q.2.2 (dC k) (dI k) := by
    refine ⟨fun k => if k = 0 then c0 else if k = 1 then c1 else if k = 2 then c2 else if k = 3 then c3 else if k = 4 then c4 else if k = 5 then c5 else if k = 6 then c6 else c7, fun k => if k = 0 then s0 else if k = 1 then s1 else if k = 2 then s2 else if k = 3 then s3 else if k = 4 then s4 else if k = 5 then s5 else if k = 6 then s6 else s7, ?_⟩
    intro k q hq
    match k, hq with
    | 0, hq => cases hq; exact g0
    | 1, hq => cases hq; exact g1
    | 2, hq => cases hq; exact g2
    | 3, hq => cases hq; exact g3
    | 4, hq => cases hq; exact g4
    | 5, hq => cases hq; exact g5
    | 6, hq => cases hq; exact g6
    | 7, hq => cases hq; exact g7
    | k + 8, hq => simp [kn_cl] at hq
  obtain ⟨cI, i1, i2⟩ := kn_arr (ty := .int) (hts _ (List.mem_of_getElem? (i := 90) (by decide +kernel))) (fun _ => rfl)
  obtain ⟨cJ, j1, j2⟩ := kn_arr (ty := .long) (hts _ (List.mem_of_getElem? (i := 196) (by decide +kernel))) (fun _ => rfl)
  obtain ⟨cZ, y1, y2⟩ := kn_arr (ty := .boolean) (hts _ (List.mem_of_getElem? (i := 679) (by decide +kernel))) (fun _ => rfl)
  obtain ⟨cA, a1, a2, a3⟩ : ∃ cA : FieldType → ClassId, cA .int = cI ∧ cA .long = cJ ∧ cA .boolean = cZ := ⟨fun t => match t with
    | .int => cI
    | .long => cJ
    | _ => cZ, rfl, rfl, rfl⟩
  have hK : va_K (dC, dI) kn_cl (kn_tys cA) s := by
    refine ⟨hKc, fun k q hq => ?_⟩
    match k, hq with
    | 0, hq => cases hq; rw [a1]; exact ⟨i1, i2⟩
    | 1, hq => cases hq; rw [a2]; exact ⟨j1, j2⟩
    | 2, hq => cases hq; rw [a3]; exact ⟨y1, y2⟩
    | k + 3, hq => simp [kn_tys] at hq
  have hns : ∀ w ∈ kn_Ns, va_Nw w s := by
    intro w hw
    obtain ⟨i, hi⟩ := List.getElem?_of_mem hw
    have h5 : (kn_Ns.map some)[i]? = some (some w) := by rw [List.getElem?_map, hi]; rfl
    rw [kn_Ns_in, List.getElem?_map] at h5
    cases h6 : kn_Np[i]? with
    | none => rw [h6] at h5; cases h5
    | some j =>
      rw [h6] at h5
      have h7 : lw_tbl[j]? = some w := Option.some.inj h5
      obtain ⟨a9, i9, x9, h9, rfl⟩ := kn_Ns_ok w hw
      exact va_Nw.of rfl (hts _ (List.mem_of_getElem? h7))
  have C1 : kn_Ctx kn_cl kn_Tg kn_Ns b s.heap.size L xs cA (dC, dI) km_law p room_1 s m #[Value.ref b] meth c :=
    ⟨hx, hb, hr, hml, hown, fun w hw => hts w (List.mem_filter.mp hw).1, hns, hlocks, fun h => absurd h (by decide), hK, hX, hbl, Nat.le_refl _, by decide, by decide⟩
  rw [lg_entry_eq]
  have hl := lv_entry ([Value.ref b]) (n := 4) (Nat.le_of_ble_eq_true rfl)
  have hsnd : kn_Snd kn_cl kn_Tg kn_Ns b s.heap.size L xs cA (dC, dI) l km_law (0, [(0, .ref 0)], []) [.inl (.int, L, .inl xs)] (some (.int 1), h1, k, z) := kn_sound kn_st l n km_law (0, [(0, .ref 0)], []) [.inl (.int, L, .inl xs)] (some (.int 1), h1, k, z) hrun ok_law
  refine hsnd (k0 := 0) (z0 := 0) C1 (by rw [Nat.zero_add]; exact hkk) (by rw [Nat.zero_add]; exact hzz) ?_ s.heap [] _ ⟨[], rfl, rfl, fun k q h => by simp [kn_w] at h, va_S.rf⟩ hl
  intro H locs ls pc hR hE
  obtain ⟨rr, -, -, -, hS⟩ := hR
  rcases hE with ⟨x, hv, hd, -⟩ | ⟨x, hv, -⟩ | ⟨hv, -⟩
  · refine va_forget (fun q hq => hS.2.2 q hq) ?_
    refine W.widen (k := 45) (n := 1765) (by rw [Nat.zero_add]; exact hkk) (by rw [Nat.zero_add]; exact hzz) ?_
    exact lw_ret hx hb hr hlocks hd
  · cases hv
  · cases hv
