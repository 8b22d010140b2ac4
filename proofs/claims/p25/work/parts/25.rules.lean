/-! fewer locals do -/
def kn_Fn (l : List (Nat × Value)) : Prop := ∀ (i : Nat) (v w : Value), (i, v) ∈ l → (i, w) ∈ l → v = w
def kn_Sb (l l2 : List (Nat × Value)) : Prop := (∀ q ∈ l, q ∈ l2) ∧ kn_Fn l2
theorem kn_ld_some : ∀ {l : List (Nat × Value)} {i : Nat} {v : Value}, (i, v) ∈ l → ∃ w, kn_ld l i = some w
  | [], _, _, h => by cases h
  | q :: r, i, v, h => by
    rw [kn_ld]
    cases hb : Nat.beq q.1 i with
    | true => exact ⟨_, rfl⟩
    | false =>
      rcases List.mem_cons.mp h with h1 | h1
      · rw [← h1] at hb
        rw [show Nat.beq (i, v).1 i = true from Nat.beq_refl i] at hb
        cases hb
      · exact kn_ld_some h1
theorem kn_ld_sub {l l2 : List (Nat × Value)} (h : kn_Sb l l2) {i : Nat} {v : Value} (hl : kn_ld l i = some v) : kn_ld l2 i = some v := by
  have hm := h.1 _ (kn_ld_mem hl)
  obtain ⟨w, hw⟩ := kn_ld_some hm
  rw [hw, h.2 i w v (kn_ld_mem hw) hm]
theorem kn_s1_sub {l l2 : List (Nat × Value)} (h : kn_Sb l l2) (i : Nat) (v : Value) : kn_Sb (kn_s1 l i v) (kn_s1 l2 i v) := by
  refine ⟨fun q hq => ?_, fun j a b ha hb => ?_⟩
  · rcases List.mem_cons.mp hq with rfl | hq
    · exact List.mem_cons_self
    · obtain ⟨h1, h2⟩ := List.mem_filter.mp hq
      exact List.mem_cons_of_mem _ (List.mem_filter.mpr ⟨h.1 _ h1, h2⟩)
  · rcases List.mem_cons.mp ha with ha | ha <;> rcases List.mem_cons.mp hb with hb | hb
    · cases ha; cases hb; rfl
    · cases ha
      have := (List.mem_filter.mp hb).2
      simp at this
    · cases hb
      have := (List.mem_filter.mp ha).2
      simp at this
    · exact h.2 j a b (List.mem_filter.mp ha).1 (List.mem_filter.mp hb).1
theorem kn_s2_sub {l l2 : List (Nat × Value)} (h : kn_Sb l l2) (i : Nat) (v : Value) : kn_Sb (kn_s2 l i v) (kn_s2 l2 i v) := by
  refine ⟨fun q hq => ?_, fun j a b ha hb => ?_⟩
  · rcases List.mem_cons.mp hq with rfl | hq
    · exact List.mem_cons_self
    · obtain ⟨h1, h2⟩ := List.mem_filter.mp hq
      exact List.mem_cons_of_mem _ (List.mem_filter.mpr ⟨h.1 _ h1, h2⟩)
  · rcases List.mem_cons.mp ha with ha | ha <;> rcases List.mem_cons.mp hb with hb | hb
    · cases ha; cases hb; rfl
    · cases ha
      have := (List.mem_filter.mp hb).2
      simp at this
    · cases hb
      have := (List.mem_filter.mp ha).2
      simp at this
    · exact h.2 j a b (List.mem_filter.mp ha).1 (List.mem_filter.mp hb).1
/-- a step's outcome with other locals -/
def kn_Rs (l2 : List (Nat × Value)) (q : kn_R) (q2 : Option kn_R) : Prop := match q with
  | .inl (f1, h1, k, z) => ∃ l3, q2 = some (.inl ((f1.1, l3, f1.2.2), h1, k, z)) ∧ kn_Sb f1.2.1 l3
  | .inr (.inl (j, as, f1)) => ∃ l3, q2 = some (.inr (.inl (j, as, (f1.1, l3, f1.2.2)))) ∧ kn_Sb f1.2.1 l3
  | .inr (.inr v) => q2 = some (.inr (.inr v))
set_option maxHeartbeats 4000000 in
theorem kn_step_sub {nL : Nat} {ret : Option FieldType} {i : kn_I} {pc : Nat} {l l2 : List (Nat × Value)} {st : List Value} {h : kn_H} {q : kn_R} (hb : kn_Sb l l2) (hs : kn_step nL ret i pc l st h = some q) : kn_Rs l2 q (kn_step nL ret i pc l2 st h) := by
  obtain ⟨ins, len, aux, pl⟩ := i
  have hld : ∀ {i : Nat} {v : Value}, kn_ld l i = some v → kn_ld l2 i = some v := fun h => kn_ld_sub hb h
  cases ins
  case iload_n n => simp only [kn_step, kn_ldi] at hs ⊢; split at hs <;> first | (cases hs; done) | (rename_i hx; rw [hld hx]; cases hs; exact ⟨l2, rfl, hb⟩)
  case iload n => simp only [kn_step, kn_ldi] at hs ⊢; split at hs <;> first | (cases hs; done) | (rename_i hx; rw [hld hx]; cases hs; exact ⟨l2, rfl, hb⟩)
  case lload_n n => simp only [kn_step, kn_ldl] at hs ⊢; split at hs <;> first | (cases hs; done) | (rename_i hx; rw [hld hx]; cases hs; exact ⟨l2, rfl, hb⟩)
  case lload n => simp only [kn_step, kn_ldl] at hs ⊢; split at hs <;> first | (cases hs; done) | (rename_i hx; rw [hld hx]; cases hs; exact ⟨l2, rfl, hb⟩)
  case aload_n n => simp only [kn_step, kn_lda] at hs ⊢; split at hs <;> first | (cases hs; done) | (rename_i hx; rw [hld hx]; cases hs; exact ⟨l2, rfl, hb⟩)
  case aload n => simp only [kn_step, kn_lda] at hs ⊢; split at hs <;> first | (cases hs; done) | (rename_i hx; rw [hld hx]; cases hs; exact ⟨l2, rfl, hb⟩)
  case istore_n n => simp only [kn_step, kn_sti, cond_eq_ite] at hs ⊢; split at hs <;> first | (cases hs; done) | (split at hs <;> first | (cases hs; done) | (rename_i hx; rw [if_pos hx]; cases hs; exact ⟨_, rfl, kn_s1_sub hb _ _⟩))
  case istore n => simp only [kn_step, kn_sti, cond_eq_ite] at hs ⊢; split at hs <;> first | (cases hs; done) | (split at hs <;> first | (cases hs; done) | (rename_i hx; rw [if_pos hx]; cases hs; exact ⟨_, rfl, kn_s1_sub hb _ _⟩))
  case lstore_n n => simp only [kn_step, kn_stl, cond_eq_ite] at hs ⊢; split at hs <;> first | (cases hs; done) | (split at hs <;> first | (cases hs; done) | (rename_i hx; rw [if_pos hx]; cases hs; exact ⟨_, rfl, kn_s2_sub hb _ _⟩))
  case lstore n => simp only [kn_step, kn_stl, cond_eq_ite] at hs ⊢; split at hs <;> first | (cases hs; done) | (split at hs <;> first | (cases hs; done) | (rename_i hx; rw [if_pos hx]; cases hs; exact ⟨_, rfl, kn_s2_sub hb _ _⟩))
  case astore_n n => simp only [kn_step, kn_sta, cond_eq_ite] at hs ⊢; split at hs <;> first | (cases hs; done) | (split at hs <;> first | (cases hs; done) | (rename_i hx; rw [if_pos hx]; cases hs; exact ⟨_, rfl, kn_s1_sub hb _ _⟩))
  case astore n => simp only [kn_step, kn_sta, cond_eq_ite] at hs ⊢; split at hs <;> first | (cases hs; done) | (split at hs <;> first | (cases hs; done) | (rename_i hx; rw [if_pos hx]; cases hs; exact ⟨_, rfl, kn_s1_sub hb _ _⟩))
  case iinc n m => simp only [kn_step, kn_inc, cond_eq_ite] at hs ⊢; split at hs <;> first | (cases hs; done) | (rename_i hy; rw [hld hy]; dsimp only; split at hs <;> first | (cases hs; done) | (rename_i hx; rw [if_pos hx]; cases hs; exact ⟨_, rfl, kn_s1_sub hb _ _⟩))
  case ifCond cc off =>
    simp only [kn_step, kn_if] at hs ⊢
    split at hs
    · cases cc <;> (simp only [kn_br] at hs ⊢; split at hs <;> (rename_i hc; first | rw [if_pos hc] | rw [if_neg hc]) <;> (cases hs; exact ⟨l2, rfl, hb⟩))
    · cases hs
  case if_icmp cc off =>
    simp only [kn_step, kn_cmp] at hs ⊢
    split at hs
    · cases cc <;> (simp only [kn_br] at hs ⊢; split at hs <;> (rename_i hc; first | rw [if_pos hc] | rw [if_neg hc]) <;> (cases hs; exact ⟨l2, rfl, hb⟩))
    · cases hs
  case tableswitch dflt low high offs =>
    replace hs : kn_tab low high aux l st h = some q := hs
    show kn_Rs l2 q (kn_tab low high aux l2 st h)
    unfold kn_tab at hs ⊢
    split at hs
    · split at hs
      · rename_i hc
        rw [if_pos hc]
        cases hs
        exact ⟨l2, rfl, hb⟩
      · rename_i hc
        rw [if_neg hc]
        split at hs
        · cases hs
          exact ⟨l2, rfl, hb⟩
        · cases hs
    · cases hs
  case invokestatic idx =>
    cases aux with
    | nil =>
      replace hs : kn_copy (pc + 3) l st h = some q := hs
      show kn_Rs l2 q (kn_copy (pc + 3) l2 st h)
      simp only [kn_copy, kn_to, cond_eq_ite] at hs ⊢
      (repeat' split at hs) <;> first | (cases hs; done) | (cases hs; simp_all [kn_Rs]; done) | (cases hs; simp_all [kn_Rs]; exact ⟨l2, rfl, hb⟩)
    | cons a r =>
      cases r with
      | nil =>
        replace hs : kn_mx (pc + 3) l st h = some q := hs
        show kn_Rs l2 q (kn_mx (pc + 3) l2 st h)
        simp only [kn_mx, kn_to, cond_eq_ite] at hs ⊢
        split at hs
        · split at hs
          · rename_i hx
            rw [if_pos hx]
            cases hs
            exact ⟨l2, rfl, hb⟩
          · cases hs
        · cases hs
      | cons a2 r =>
        replace hs : kn_cs (pc + 3) (a :: a2 :: r) l st = some q := hs
        show kn_Rs l2 q (kn_cs (pc + 3) (a :: a2 :: r) l2 st)
        simp only [kn_cs, cond_eq_ite] at hs ⊢
        (repeat' split at hs) <;> first | (cases hs; done) | (cases hs; simp_all [kn_Rs]; done) | (cases hs; simp_all [kn_Rs]; exact ⟨l2, rfl, hb⟩)
  all_goals first | (cases hs; done) | (simp only [kn_step, kn_to] at hs ⊢; cases hs; exact ⟨l2, rfl, hb⟩) | skip
  all_goals (simp only [kn_step, kn_ii, kn_id, kn_ll, kn_ldv, kn_li, kn_lc, kn_1i, kn_1l, kn_dup, kn_pop, kn_dx1, kn_dx2, kn_d2, kn_if, kn_cmp, kn_br, kn_nul, kn_tab, kn_get, kn_put, kn_ald, kn_lald, kn_ast, kn_bast, kn_last, kn_len, kn_new, kn_newa, kn_cv, kn_cs, kn_ci, kn_cst, kn_copy, kn_mx, kn_ri, kn_rl, kn_rv, kn_to, cond_eq_ite] at hs ⊢; (repeat' split at hs) <;> first | (cases hs; done) | (cases hs; simp_all [kn_Rs]; done) | (cases hs; simp_all [kn_Rs]; exact ⟨l2, rfl, hb⟩))
