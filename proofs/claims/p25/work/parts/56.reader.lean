/-! 56: the tape, read by both -/
def KD (dl : Nat → Int32) (dz mz : Int32) (mt : Nat → Int32) : Prop := ∃ z, z ≤ 100 ∧ dz = nI z ∧ mz = nI z ∧ ∀ i, i < z → mt i = dl i ∧ ∃ v, 32 ≤ v ∧ v ≤ 126 ∧ dl i = nI v
theorem ko_type {dl mt : Nat → Int32} {dz mz : Int32} (H : KD dl dz mz mt) (a1 : Int32) :
    ∃ q1 q2, f_X6_type dl dz a1 = some q1 ∧ f_X7_type mz mt a1 = some q2 ∧ q1.1 = q2.1 ∧ KD q1.2.1 q1.2.2 q2.2.1 q2.2.2 := by
  have H0 := H
  obtain ⟨z, hz, rfl, rfl, h⟩ := H
  unfold f_X6_type f_X7_type f_X3_addLetter
  rw [kb_in7]
  by_cases c1 : f_X6_isWithin a1 (32 : Int32) (126 : Int32) = 0
  · rw [if_pos c1, if_pos c1]; exact ⟨_, _, rfl, rfl, rfl, H0⟩
  rw [if_neg c1, if_neg c1, if_neg (nI_pos (by omega))]
  obtain ⟨v, hv1, hv2, rfl⟩ := kb_win (a := 32) (b := 126) (by omega) (by omega) c1
  by_cases h1 : z = 100
  · subst h1
    rw [if_neg (by decide), if_pos (by decide)]
    exact ⟨_, _, rfl, rfl, rfl, H0⟩
  · have l1 : nI z < (100 : Int32) := nI_lt (b := 100) (by omega) (by decide)
    have l2 : ¬ nI z = (100 : Int32) := fun e => h1 ((nI_eq (b := 100) (by omega) (by omega)).mp e)
    have ix : ¬ (nI z < 0 ∨ 100 ≤ (nI z).toNatClampNeg) := nI_in (by omega) (by decide)
    rw [if_pos l1, if_neg l2, if_neg ix, if_neg ix, nI_clamp (by omega), nI_1]
    refine ⟨_, _, rfl, rfl, rfl, ?_⟩
    dsimp only
    refine ⟨z + 1, by omega, rfl, rfl, ?_⟩
    intro i hi
    by_cases e : i = z
    · subst e
      rw [upd_eq, upd_eq]
      exact ⟨rfl, v, hv1, hv2, rfl⟩
    · rw [upd_ne e, upd_ne e]
      exact h i (by omega)
/-- past the blanks -/
def sk (dl : Nat → Int32) (z : Nat) : Nat → Nat → Nat
  | 0, p => p
  | k + 1, p => if p < z ∧ dl p = 32 then sk dl z k (p + 1) else p
def nx (dl : Nat → Int32) (z p : Nat) : Nat := sk dl z (z - p) p
/-- the sign at a place, 0 behind the end -/
def sy (dl : Nat → Int32) (z p : Nat) : Nat := if p < z then (dl p).toNatClampNeg else 0
def g6 (v : Nat) : Int32 := if v = 0 then -1 else nI v
theorem sk_spec (dl : Nat → Int32) (z : Nat) : ∀ k p, p + k = z → p ≤ sk dl z k p ∧ sk dl z k p ≤ z ∧ (sk dl z k p < z → ¬ dl (sk dl z k p) = 32)
  | 0, p, h => by
    show p ≤ p ∧ p ≤ z ∧ (p < z → _)
    exact ⟨by omega, by omega, fun h => absurd h (by omega)⟩
  | k + 1, p, h => by
    unfold sk
    by_cases c : p < z ∧ dl p = 32
    · rw [if_pos c]
      obtain ⟨a, b, d⟩ := sk_spec dl z k (p + 1) (by omega)
      exact ⟨by omega, b, d⟩
    · rw [if_neg c]
      exact ⟨by omega, by omega, fun hp e => c ⟨hp, e⟩⟩
theorem nx_ge {dl : Nat → Int32} {z p : Nat} (h : p ≤ z) : p ≤ nx dl z p := (sk_spec dl z (z - p) p (by omega)).1
theorem nx_le {dl : Nat → Int32} {z p : Nat} (h : p ≤ z) : nx dl z p ≤ z := (sk_spec dl z (z - p) p (by omega)).2.1
theorem nx_st {dl : Nat → Int32} {z p : Nat} (h : p ≤ z) : nx dl z p < z → ¬ dl (nx dl z p) = 32 := (sk_spec dl z (z - p) p (by omega)).2.2
theorem nx_fix {dl : Nat → Int32} {z q : Nat} (h : q < z → ¬ dl q = 32) : nx dl z q = q := by
  unfold nx
  cases z - q with
  | zero => rfl
  | succ k =>
    unfold sk
    exact if_neg (fun c => h c.1 c.2)
theorem nx_nx {dl : Nat → Int32} {z p : Nat} (h : p ≤ z) : nx dl z (nx dl z p) = nx dl z p := nx_fix (nx_st h)
theorem nx_step {dl : Nat → Int32} {z p : Nat} (h : p < z) (e : dl p = 32) : nx dl z p = nx dl z (p + 1) := by
  unfold nx
  rw [show z - p = (z - (p + 1)) + 1 by omega]
  show (if p < z ∧ dl p = 32 then sk dl z (z - (p + 1)) (p + 1) else p) = _
  rw [if_pos ⟨h, e⟩]
theorem sy_lt {dl : Nat → Int32} {z : Nat} (hv : ∀ i, i < z → ∃ v, 32 ≤ v ∧ v ≤ 126 ∧ dl i = nI v) (p : Nat) : sy dl z p < 127 ∧ (p < z → 32 ≤ sy dl z p ∧ dl p = nI (sy dl z p)) ∧ (¬ p < z → sy dl z p = 0) := by
  unfold sy
  by_cases h : p < z
  · obtain ⟨v, h1, h2, e⟩ := hv p h
    rw [if_pos h, e, nI_clamp (by omega)]
    exact ⟨by omega, fun _ => ⟨h1, rfl⟩, fun h' => absurd h h'⟩
  · rw [if_neg h]
    exact ⟨by omega, fun h' => absurd h' h, fun _ => rfl⟩
theorem s_at {dl : Nat → Int32} {z : Nat} (hz : z ≤ 100) (hv : ∀ i, i < z → ∃ v, 32 ≤ v ∧ v ≤ 126 ∧ dl i = nI v) {p : Nat} (hp : p < 2 ^ 31) : f_X3_letterAt dl (nI z) (nI p) = some (g6 (sy dl z p)) := by
  unfold f_X3_letterAt
  rw [if_neg (nI_pos hp)]
  obtain ⟨h1, h2, h3⟩ := sy_lt hv p
  by_cases h : p < z
  · have l : ¬ (100 : Int32) ≤ nI p := nI_ge (b := 100) (by omega) (by decide)
    rw [if_neg (nI_ge h (by omega)), if_neg l, if_neg (nI_in (by omega) (by decide)), nI_clamp (by omega)]
    obtain ⟨h4, h5⟩ := h2 h
    unfold g6
    rw [if_neg (by omega), h5]
  · rw [if_pos (nI_le (by omega) hp), h3 h]
    rfl
theorem s_next6 {dl : Nat → Int32} {z : Nat} (hz : z ≤ 100) (hv : ∀ i, i < z → ∃ v, 32 ≤ v ∧ v ≤ 126 ∧ dl i = nI v) : ∀ (m p n : Nat), p + m = z → m < n → fl_X3_nextLetter_0 n dl (nI z) (nI p) = some (g6 (sy dl z (nx dl z p)), nI (nx dl z p))
  | m, p, 0, _, h => absurd h (by omega)
  | 0, p, n + 1, hp, _ => by
    have e : p = z := by omega
    subst e
    rw [fl_X3_nextLetter_0, if_pos (Int32.le_refl _), s_at hz hv (by omega), nx_fix (fun h => absurd h (by omega))]
  | m + 1, p, n + 1, hp, hm => by
    rw [fl_X3_nextLetter_0, if_neg (nI_ge (by omega) (by omega)), s_at hz hv (by omega)]
    dsimp only
    obtain ⟨h1, h2, h3⟩ := sy_lt hv p
    obtain ⟨h4, h5⟩ := h2 (by omega)
    have eg : g6 (sy dl z p) = nI (sy dl z p) := if_neg (by omega)
    by_cases h : dl p = 32
    · rw [if_pos (by rw [eg, ← h5]; exact h), nI_1, s_next6 hz hv m (p + 1) n (by omega) (by omega), nx_step (by omega) h]
    · rw [if_neg (by rw [eg, ← h5]; exact h), nx_fix (fun _ => h)]
theorem s_next7 {dl mt : Nat → Int32} {z : Nat} (hz : z ≤ 100) (hv : ∀ i, i < z → ∃ v, 32 ≤ v ∧ v ≤ 126 ∧ dl i = nI v) (ht : ∀ i, i < z → mt i = dl i) : ∀ (m p n : Nat), p + m = z → m < n → fl_X7_peek_0 n (nI z) mt (nI p) = some (nI (sy dl z (nx dl z p)), nI (nx dl z p))
  | m, p, 0, _, h => absurd h (by omega)
  | 0, p, n + 1, hp, _ => by
    have e : p = z := by omega
    subst e
    rw [fl_X7_peek_0, if_pos (Int32.le_refl _), if_pos (Int32.le_refl _), nx_fix (fun h => absurd h (by omega)), (sy_lt hv p).2.2 (by omega)]
    rfl
  | m + 1, p, n + 1, hp, hm => by
    obtain ⟨h1, h2, h3⟩ := sy_lt hv p
    obtain ⟨h4, h5⟩ := h2 (by omega)
    have ix : ¬ (nI p < 0 ∨ 100 ≤ (nI p).toNatClampNeg) := nI_in (by omega) (by decide)
    have le : ¬ nI z ≤ nI p := nI_ge (by omega) (by omega)
    rw [fl_X7_peek_0, if_neg le, if_neg ix, if_neg le, if_neg ix, nI_clamp (by omega), ht p (by omega)]
    by_cases h : dl p = 32
    · rw [if_pos h, nI_1, s_next7 hz hv ht m (p + 1) n (by omega) (by omega), nx_step (by omega) h]
    · rw [if_neg h, nx_fix (fun _ => h), ← h5]
theorem g_kind : ∀ v, v < 127 → f_X3_kindOf (g6 v) = f_X7_kindBy (nI v) := by decide +kernel
theorem g_kin : ∀ v, v < 127 → (f_X7_kindBy (nI v) = -1 ∨ ∃ k, k < 5 ∧ f_X7_kindBy (nI v) = nI k) := by decide +kernel
theorem g_dig6 : ∀ v, v < 127 → (f_X3_isDigit (g6 v) = if 48 ≤ v ∧ v ≤ 57 then 1 else 0) := by decide +kernel
theorem g_dig7 : ∀ v, v < 127 → (f_X6_isWithin (nI v - 48) 0 9 = if 48 ≤ v ∧ v ≤ 57 then 1 else 0) := by decide +kernel
theorem g_dig8 : ∀ v, v < 127 → (f_X6_isWithin (nI v) 48 57 = if 48 ≤ v ∧ v ≤ 57 then 1 else 0) := by decide +kernel
theorem g_par6 : ∀ v, v < 127 → (f_X6_isWithin (g6 v - 48) 0 3 = if 48 ≤ v ∧ v ≤ 51 then 1 else 0) := by decide +kernel
theorem g_par7 : ∀ v, v < 127 → (f_X6_isWithin (nI v - 48) 0 3 = if 48 ≤ v ∧ v ≤ 51 then 1 else 0) := by decide +kernel
theorem g_eq : ∀ v, v < 127 → ∀ c, c < 127 → c ≠ 0 → (g6 v = nI c ↔ v = c) := by
  intro v hv c hc h0
  unfold g6
  by_cases h : v = 0
  · rw [if_pos h]
    constructor
    · intro e
      have hh : ∀ c, c < 127 → ¬ (-1 : Int32) = nI c := by decide +kernel
      exact absurd e (hh c hc)
    · intro e; omega
  · rw [if_neg h]
    exact nI_eq (by omega) (by omega)
theorem g_end : ∀ v, v < 127 → (g6 v = -1 ↔ v = 0) := by
  intro v hv
  unfold g6
  by_cases h : v = 0
  · rw [if_pos h]; exact ⟨fun _ => h, fun _ => rfl⟩
  · rw [if_neg h]
    constructor
    · intro e
      have hh : ∀ c, c < 127 → ¬ nI c = (-1 : Int32) := by decide +kernel
      exact absurd e (hh v hv)
    · intro e; exact absurd e h
theorem s_add6 {n : Nat} (hn : n < 8) (dk dh db dp : Nat → Int32) (a1 a2 a3 a4 : Int32) : f_X0_add_1 dk dh db dp (nI n) a1 a2 a3 a4 = some (nI n, upd dk n a1, upd dh n a2, upd db n a3, upd dp n a4, nI (n + 1)) := by
  have l0 : ¬ nI n < 0 := nI_pos (by omega)
  have l8 : nI n < (8 : Int32) := nI_lt (b := 8) (by omega) (by decide)
  have ix : ¬ (nI n < 0 ∨ 8 ≤ (nI n).toNatClampNeg) := nI_in (by omega) (by decide)
  unfold f_X0_add_1
  rw [if_neg l0, if_pos l8, if_neg ix, if_neg ix, if_neg ix, if_neg ix, nI_clamp (by omega), nI_1]
/-- what is told so far -/
def KT (n : Nat) (dk dh db dp rd : Nat → Int32) (dr : Int32) : Prop := KC n dk dh db dp ∧ KW n dk dh db dp rd ∧ KH rd 0 (nI (2 ^ n - 1)) 0 0 0 dr ∧ rd 38 = 0
theorem s_add7 {n : Nat} (hn : n < 8) {dk dh db dp rd : Nat → Int32} {dr : Int32} (H : KT n dk dh db dp rd dr) {K h b p : Nat} (hK : K < 5) (h1 : 1 ≤ h) (h2 : h ≤ 20) (hb : b < 2 ^ n) (hp : p < 4) :
    ∃ rd', f_X7_add_1 rd (nI K) (nI h) (nI b) (nI p) = some (nI n, rd') ∧ KT (n + 1) (upd dk n (nI K)) (upd dh n (nI h)) (upd db n (nI b)) (upd dp n (nI p)) rd' dr := by
  obtain ⟨hC, hW, ⟨z0, z1, z2, z3, z4⟩, z38⟩ := H
  unfold f_X7_add_1
  rw [hW.1, c6, c14, c22, c30, if_neg (nI_in (by omega) (by decide)), if_neg (nI_in (by omega) (by decide)), if_neg (nI_in (by omega) (by decide)), if_neg (nI_in (by omega) (by decide)), nI_clamp (n := 6 + n) (by omega), nI_clamp (n := 14 + n) (by omega), nI_clamp (n := 22 + n) (by omega), nI_clamp (n := 30 + n) (by omega)]
  have p3 : 0 < 2 ^ n := Nat.two_pow_pos n
  have p4 : 2 ^ (n + 1) = 2 ^ n * 2 := Nat.pow_succ ..
  refine ⟨_, rfl, ⟨by omega, ?_⟩, ⟨?_, ?_⟩, ⟨?_, ?_, ?_, ?_, ?_⟩, ?_⟩
  · intro c hc
    by_cases e : c = n
    · subst e
      exact ⟨⟨K, hK, upd_eq⟩, ⟨h, h1, h2, upd_eq⟩, ⟨b, hb, upd_eq⟩, ⟨p, hp, upd_eq⟩⟩
    · rw [upd_ne e, upd_ne e, upd_ne e, upd_ne e]
      exact hC.2 c (by omega)
  · simp (disch := omega) only [upd_ne, upd_eq]; rw [hW.1, nI_1]
  · intro c hc
    by_cases e : c = n
    · subst e
      simp (disch := omega) only [upd_ne, upd_eq]
      exact ⟨trivial, trivial, trivial, trivial⟩
    · obtain ⟨u1, u2, u3, u4⟩ := hW.2 c (by omega)
      simp (disch := omega) only [upd_ne, upd_eq]
      exact ⟨u1, u2, u3, u4⟩
  · simp (disch := omega) only [upd_ne, upd_eq]; exact z0
  · simp (disch := omega) only [upd_ne, upd_eq]; exact z1
  · simp (disch := omega) only [upd_ne, upd_eq]
    rw [show rd 2 = nI (2 ^ n - 1) from z2, kb_bt n (by omega), kb_or]
    congr 1
    have hh : ∀ n, n < 8 → (2 ^ n - 1) ||| 2 ^ n = 2 ^ (n + 1) - 1 := by decide
    exact hh n hn
  · simp (disch := omega) only [upd_ne, upd_eq]; exact z3
  · simp (disch := omega) only [upd_ne, upd_eq]; exact z4
  · simp (disch := omega) only [upd_ne, upd_eq]; exact z38
/-- the class's end of a clause, behind holds and bars -/
def tl6 (dl dk dh db dp : Nat → Int32) (sz dz a : Int32) (K h b : Int32) : Option (Int32 × (Nat → Int32) × (Nat → Int32) × (Nat → Int32) × (Nat → Int32) × Int32 × Int32) :=
  match f_X3_nextLetter dl dz a with
  | none => none
  | some q5 =>
    if q5.1 = (64 : Int32) then
      match f_X3_nextLetter dl dz (q5.2 + (1 : Int32)) with
      | none => none
      | some q6 =>
        if (f_X6_isParty (q6.1 - (48 : Int32))) = (0 : Int32) then
          some ((0 : Int32), dk, dh, db, dp, sz, q6.2)
        else
          match f_X0_add_1 dk dh db dp sz K h b (q6.1 - (48 : Int32)) with
          | none => none
          | some q7 =>
            if q7.1 < (0 : Int32) then
              some ((0 : Int32), q7.2.1, q7.2.2.1, q7.2.2.2.1, q7.2.2.2.2.1, q7.2.2.2.2.2, (q6.2 + (1 : Int32)))
            else
              some ((1 : Int32), q7.2.1, q7.2.2.1, q7.2.2.2.1, q7.2.2.2.2.1, q7.2.2.2.2.2, (q6.2 + (1 : Int32)))
    else
      match f_X0_add_1 dk dh db dp sz K h b (0 : Int32) with
      | none => none
      | some q8 =>
        if q8.1 < (0 : Int32) then
          some ((0 : Int32), q8.2.1, q8.2.2.1, q8.2.2.2.1, q8.2.2.2.2.1, q8.2.2.2.2.2, q5.2)
        else
          some ((1 : Int32), q8.2.1, q8.2.2.1, q8.2.2.2.1, q8.2.2.2.2.1, q8.2.2.2.2.2, q5.2)
def tl7 (mz : Int32) (mt : Nat → Int32) (a num : Int32) (rd : Nat → Int32) (K h b : Int32) : Option (Int32 × Int32 × Int32 × (Nat → Int32)) :=
  match f_X7_isSign mz mt a (64 : Int32) with
  | none => none
  | some q10 =>
    if q10.1 = (0 : Int32) then
      match f_X7_add_1 rd K h b (0 : Int32) with
      | none => none
      | some q11 => some ((1 : Int32), q10.2, num, q11.2)
    else
      match f_X7_isDigit mz mt q10.2 num (0 : Int32) (3 : Int32) with
      | none => none
      | some q12 =>
        if q12.1 = (0 : Int32) then
          some ((0 : Int32), q12.2.1, q12.2.2, rd)
        else
          match f_X7_add_1 rd K h b q12.2.2 with
          | none => none
          | some q13 => some ((1 : Int32), q12.2.1, q12.2.2, q13.2)
