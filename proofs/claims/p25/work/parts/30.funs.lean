def kn_hp (L : Nat) (xs : Nat → Int32) (r_t_kinds : (Nat → Int32)) (r_t_holds : (Nat → Int32)) (r_t_barred : (Nat → Int32)) (r_t_parties : (Nat → Int32)) (r_t_size : Int32) (r_p_numbers : (Nat → Int32)) (r_p_size : Int32) (r_firms : (Nat → Int32)) (r_tied : Int32) (r_wars : Int32) (r_wet : Int32) (r_day : Int32) (r_drawn : Int32) (k_t_kinds : (Nat → Int32)) (k_t_holds : (Nat → Int32)) (k_t_barred : (Nat → Int32)) (k_t_parties : (Nat → Int32)) (k_t_size : Int32) (k_p_numbers : (Nat → Int32)) (k_p_size : Int32) (k_firms : (Nat → Int32)) (k_tied : Int32) (k_wars : Int32) (k_wet : Int32) (k_day : Int32) (k_drawn : Int32) (f_depths : (Nat → Int32)) (f_bars : (Nat → Int32)) (f_ways : (Nat → Int32)) (d_letters : (Nat → Int32)) (d_t_kinds : (Nat → Int32)) (d_t_holds : (Nat → Int32)) (d_t_barred : (Nat → Int32)) (d_t_parties : (Nat → Int32)) (d_t_size : Int32) (d_size : Int32) (d_at : Int32) (s_lanes : (Nat → Int32)) (s_sizes : (Nat → Int32)) (s_items : (Nat → Int64)) (isKept : Int32) (m_lane : (Nat → Int32)) (m_size : (Nat → Int32)) (m_item : (Nat → Int64)) (m_letters : Int32) (m_tape : (Nat → Int32)) (m_position : Int32) (m_number : Int32) (m_now : (Nat → Int32)) (m_tried : (Nat → Int32)) (m_read : (Nat → Int32)) (m_kept : (Nat → Int32)) (m_isKept : Int32) (m_ways : (Nat → Int32)) (m_wins : (Nat → Int32)) : kn_H := [
  .inl (.int, L, .inl xs),
  .inr (6, [.ref 2, .ref 11, .ref 20, .ref 24, .ref 31, .int isKept]),
  .inr (4, [.ref 3, .ref 8, .ref 10, .int r_tied, .int r_wars, .int r_wet, .int r_day, .int r_drawn]),
  .inr (0, [.ref 4, .ref 5, .ref 6, .ref 7, .int r_t_size]),
  .inl (.int, 8, .inl r_t_kinds),
  .inl (.int, 8, .inl r_t_holds),
  .inl (.int, 8, .inl r_t_barred),
  .inl (.int, 8, .inl r_t_parties),
  .inr (2, [.ref 9, .int r_p_size]),
  .inl (.int, 40, .inl r_p_numbers),
  .inl (.int, 8, .inl r_firms),
  .inr (4, [.ref 12, .ref 17, .ref 19, .int k_tied, .int k_wars, .int k_wet, .int k_day, .int k_drawn]),
  .inr (0, [.ref 13, .ref 14, .ref 15, .ref 16, .int k_t_size]),
  .inl (.int, 8, .inl k_t_kinds),
  .inl (.int, 8, .inl k_t_holds),
  .inl (.int, 8, .inl k_t_barred),
  .inl (.int, 8, .inl k_t_parties),
  .inr (2, [.ref 18, .int k_p_size]),
  .inl (.int, 40, .inl k_p_numbers),
  .inl (.int, 8, .inl k_firms),
  .inr (1, [.ref 21, .ref 22, .ref 23]),
  .inl (.int, 8, .inl f_depths),
  .inl (.int, 8, .inl f_bars),
  .inl (.int, 256, .inl f_ways),
  .inr (3, [.ref 25, .ref 26, .int d_size, .int d_at]),
  .inl (.int, 100, .inl d_letters),
  .inr (0, [.ref 27, .ref 28, .ref 29, .ref 30, .int d_t_size]),
  .inl (.int, 8, .inl d_t_kinds),
  .inl (.int, 8, .inl d_t_holds),
  .inl (.int, 8, .inl d_t_barred),
  .inl (.int, 8, .inl d_t_parties),
  .inr (5, [.ref 32, .ref 33, .ref 34]),
  .inl (.int, 4, .inl s_lanes),
  .inl (.int, 4, .inl s_sizes),
  .inl (.long, 96, .inr (.inl s_items)),
  .inr (7, [.ref 36, .ref 37, .ref 38, .int m_letters, .ref 39, .int m_position, .int m_number, .ref 40, .ref 41, .ref 42, .ref 43, .int m_isKept, .ref 44, .ref 45]),
  .inl (.int, 4, .inl m_lane),
  .inl (.int, 4, .inl m_size),
  .inl (.long, 96, .inr (.inl m_item)),
  .inl (.int, 100, .inl m_tape),
  .inl (.int, 79, .inl m_now),
  .inl (.int, 79, .inl m_tried),
  .inl (.int, 79, .inl m_read),
  .inl (.int, 79, .inl m_kept),
  .inl (.int, 256, .inl m_ways),
  .inl (.boolean, 256, .inl m_wins)]
noncomputable section KFN
def f_X6_isWithin (p0 : Int32) (p1 : Int32) (p2 : Int32) : Int32 :=
  (if p0 < p1 then
    (0 : Int32)
  else
    (if p2 < p0 then
      (0 : Int32)
    else
      (1 : Int32)))
def f_X6_isParty (p0 : Int32) : Int32 :=
  (f_X6_isWithin p0 (0 : Int32) (3 : Int32))
def f_X0_add (r_t_kinds : (Nat → Int32)) (r_t_holds : (Nat → Int32)) (r_t_barred : (Nat → Int32)) (r_t_parties : (Nat → Int32)) (r_t_size : Int32) (p1 : Int32) (p2 : Int32) (p3 : Int32) (p4 : Int32) : Option (Int32 × (Nat → Int32) × (Nat → Int32) × (Nat → Int32) × (Nat → Int32) × Int32) :=
  (if r_t_size < (0 : Int32) then
    some ((-3 : Int32), r_t_kinds, r_t_holds, r_t_barred, r_t_parties, r_t_size)
  else
    (if r_t_size < (8 : Int32) then
      (if r_t_size < 0 ∨ 8 ≤ (r_t_size).toNatClampNeg then none else
        (if r_t_size < 0 ∨ 8 ≤ (r_t_size).toNatClampNeg then none else
          (if r_t_size < 0 ∨ 8 ≤ (r_t_size).toNatClampNeg then none else
            (if r_t_size < 0 ∨ 8 ≤ (r_t_size).toNatClampNeg then none else
              some (r_t_size, (upd r_t_kinds (r_t_size).toNatClampNeg p1), (upd r_t_holds (r_t_size).toNatClampNeg p2), (upd r_t_barred (r_t_size).toNatClampNeg p3), (upd r_t_parties (r_t_size).toNatClampNeg p4), (r_t_size + (1 : Int32)))))))
    else
      some ((-3 : Int32), r_t_kinds, r_t_holds, r_t_barred, r_t_parties, r_t_size)))
def f_X4_addClause (r_t_kinds : (Nat → Int32)) (r_t_holds : (Nat → Int32)) (r_t_barred : (Nat → Int32)) (r_t_parties : (Nat → Int32)) (r_t_size : Int32) (r_p_size : Int32) (r_tied : Int32) (p1 : Int32) (p2 : Int32) (p3 : Int32) (p4 : Int32) : Option (Int32 × (Nat → Int32) × (Nat → Int32) × (Nat → Int32) × (Nat → Int32) × Int32 × Int32 × Int32) :=
  (match f_X0_add r_t_kinds r_t_holds r_t_barred r_t_parties r_t_size p1 p2 p3 p4 with
  | none => none
  | some q1 =>
    (if q1.1 < (0 : Int32) then
      some (q1.1, q1.2.1, q1.2.2.1, q1.2.2.2.1, q1.2.2.2.2.1, q1.2.2.2.2.2, r_p_size, r_tied)
    else
      some (q1.1, q1.2.1, q1.2.2.1, q1.2.2.2.1, q1.2.2.2.2.1, q1.2.2.2.2.2, (0 : Int32), (r_tied ||| ((1 : Int32) <<< (q1.1 &&& (31 : Int32)))))))
def f_X6_clause (r_t_kinds : (Nat → Int32)) (r_t_holds : (Nat → Int32)) (r_t_barred : (Nat → Int32)) (r_t_parties : (Nat → Int32)) (r_t_size : Int32) (r_p_size : Int32) (r_tied : Int32) (p1 : Int32) (p2 : Int32) (p3 : Int32) (p4 : Int32) : Option (Int32 × (Nat → Int32) × (Nat → Int32) × (Nat → Int32) × (Nat → Int32) × Int32 × Int32 × Int32) :=
  (if (f_X6_isWithin p1 (0 : Int32) (4 : Int32)) = (0 : Int32) then
    some ((-1 : Int32), r_t_kinds, r_t_holds, r_t_barred, r_t_parties, r_t_size, r_p_size, r_tied)
  else
    (if (f_X6_isWithin p2 (1 : Int32) (20 : Int32)) = (0 : Int32) then
      some ((-1 : Int32), r_t_kinds, r_t_holds, r_t_barred, r_t_parties, r_t_size, r_p_size, r_tied)
    else
      (if (f_X6_isWithin p3 (0 : Int32) (((1 : Int32) <<< (r_t_size &&& (31 : Int32))) - (1 : Int32))) = (0 : Int32) then
        some ((-1 : Int32), r_t_kinds, r_t_holds, r_t_barred, r_t_parties, r_t_size, r_p_size, r_tied)
      else
        (if (f_X6_isParty p4) = (0 : Int32) then
          some ((-1 : Int32), r_t_kinds, r_t_holds, r_t_barred, r_t_parties, r_t_size, r_p_size, r_tied)
        else
          (if r_t_size < (8 : Int32) then
            (match f_X4_addClause r_t_kinds r_t_holds r_t_barred r_t_parties r_t_size r_p_size r_tied p1 p2 p3 p4 with
            | none => none
            | some q1 =>
              some (q1.1, q1.2.1, q1.2.2.1, q1.2.2.2.1, q1.2.2.2.2.1, q1.2.2.2.2.2.1, q1.2.2.2.2.2.2.1, q1.2.2.2.2.2.2.2))
          else
            some ((-3 : Int32), r_t_kinds, r_t_holds, r_t_barred, r_t_parties, r_t_size, r_p_size, r_tied))))))
def f_X7_in (p0 : Int32) (p1 : Int32) (p2 : Int32) : Int32 :=
  (if p0 < p1 then
    (0 : Int32)
  else
    (if p2 < p0 then
      (0 : Int32)
    else
      (1 : Int32)))
def f_X7_add (m_now : (Nat → Int32)) (p1 : Int32) (p2 : Int32) (p3 : Int32) (p4 : Int32) : Option (Int32 × (Nat → Int32)) :=
  (if ((6 : Int32) + (m_now 5)) < 0 ∨ 79 ≤ (((6 : Int32) + (m_now 5))).toNatClampNeg then none else
    (if ((14 : Int32) + (m_now 5)) < 0 ∨ 79 ≤ (((14 : Int32) + (m_now 5))).toNatClampNeg then none else
      (if ((22 : Int32) + (m_now 5)) < 0 ∨ 79 ≤ (((22 : Int32) + (m_now 5))).toNatClampNeg then none else
        (if ((30 : Int32) + (m_now 5)) < 0 ∨ 79 ≤ (((30 : Int32) + (m_now 5))).toNatClampNeg then none else
          some ((m_now 5), (upd (upd (upd (upd (upd (upd m_now (((6 : Int32) + (m_now 5))).toNatClampNeg p1) (((14 : Int32) + (m_now 5))).toNatClampNeg p2) (((22 : Int32) + (m_now 5))).toNatClampNeg p3) (((30 : Int32) + (m_now 5))).toNatClampNeg p4) 2 (((upd (upd (upd (upd m_now (((6 : Int32) + (m_now 5))).toNatClampNeg p1) (((14 : Int32) + (m_now 5))).toNatClampNeg p2) (((22 : Int32) + (m_now 5))).toNatClampNeg p3) (((30 : Int32) + (m_now 5))).toNatClampNeg p4) 2) ||| ((1 : Int32) <<< ((m_now 5) &&& (31 : Int32))))) 5 (((upd (upd (upd (upd (upd m_now (((6 : Int32) + (m_now 5))).toNatClampNeg p1) (((14 : Int32) + (m_now 5))).toNatClampNeg p2) (((22 : Int32) + (m_now 5))).toNatClampNeg p3) (((30 : Int32) + (m_now 5))).toNatClampNeg p4) 2 (((upd (upd (upd (upd m_now (((6 : Int32) + (m_now 5))).toNatClampNeg p1) (((14 : Int32) + (m_now 5))).toNatClampNeg p2) (((22 : Int32) + (m_now 5))).toNatClampNeg p3) (((30 : Int32) + (m_now 5))).toNatClampNeg p4) 2) ||| ((1 : Int32) <<< ((m_now 5) &&& (31 : Int32))))) 5) + (1 : Int32))))))))
def f_X7_clause (m_now : (Nat → Int32)) (p1 : Int32) (p2 : Int32) (p3 : Int32) (p4 : Int32) : Option (Int32 × (Nat → Int32)) :=
  (if (f_X7_in p1 (0 : Int32) (4 : Int32)) = (0 : Int32) then
    some ((-1 : Int32), m_now)
  else
    (if (f_X7_in p2 (1 : Int32) (20 : Int32)) = (0 : Int32) then
      some ((-1 : Int32), m_now)
    else
      (if (f_X7_in p3 (0 : Int32) (((1 : Int32) <<< ((m_now 5) &&& (31 : Int32))) - (1 : Int32))) = (0 : Int32) then
        some ((-1 : Int32), m_now)
      else
        (if (f_X7_in p4 (0 : Int32) (3 : Int32)) = (0 : Int32) then
          some ((-1 : Int32), m_now)
        else
          (if (m_now 5) = (8 : Int32) then
            some ((-3 : Int32), m_now)
          else
            (match f_X7_add (upd m_now 38 (0 : Int32)) p1 p2 p3 p4 with
            | none => none
            | some q1 =>
              some (q1.1, q1.2)))))))
def f_X6_isClause (r_t_size : Int32) (p1 : Int32) : Int32 :=
  (if p1 < (0 : Int32) then
    (0 : Int32)
  else
    (if r_t_size ≤ p1 then
      (0 : Int32)
    else
      (if (8 : Int32) ≤ p1 then
        (0 : Int32)
      else
        (1 : Int32))))
def f_X6_has (p0 : Int32) (p1 : Int32) : Int32 :=
  (if ((p0 >>> (p1 &&& (31 : Int32))) &&& (1 : Int32)) = (0 : Int32) then
    (0 : Int32)
  else
    (1 : Int32))
def fl_X4_freeAmong_4 : Nat → (Nat → Int32) → Int32 → Int32 → Int32 → Option (Int32)
  | 0, _, _, _, _ => none
  | n + 1, r_t_barred, v1, v2, v3 =>
    (if (8 : Int32) ≤ v3 then
      some (v2)
    else
      (if (f_X6_has v1 v3) = (0 : Int32) then
        fl_X4_freeAmong_4 n r_t_barred v1 v2 (v3 + (1 : Int32))
      else
        (if v3 < 0 ∨ 8 ≤ (v3).toNatClampNeg then none else
          (if ((r_t_barred (v3).toNatClampNeg) &&& v1) = (0 : Int32) then
            fl_X4_freeAmong_4 n r_t_barred v1 (v2 ||| ((1 : Int32) <<< (v3 &&& (31 : Int32)))) (v3 + (1 : Int32))
          else
            fl_X4_freeAmong_4 n r_t_barred v1 v2 (v3 + (1 : Int32))))))
def f_X4_freeAmong (r_t_barred : (Nat → Int32)) (p1 : Int32) : Option (Int32) :=
  fl_X4_freeAmong_4 300 r_t_barred p1 (0 : Int32) (0 : Int32)
def f_X4_firmBy (r_wet : Int32) (p1 : Int32) (p2 : Int32) (p3 : Int32) : Int32 :=
  (if r_wet = (1 : Int32) then
    (if p1 = (0 : Int32) then
      ((2 : Int32) * p2)
    else
    (if p1 = (1 : Int32) then
      (((2 : Int32) * p2) + (10 : Int32))
    else
    (if p1 = (2 : Int32) then
      (((2 : Int32) * p2) / (2 : Int32))
    else
    (if p1 = (3 : Int32) then
      ((((2 : Int32) * p2) + (10 : Int32)) + (p3 / (10 : Int32)))
    else
    (if p1 = (4 : Int32) then
      (if (p3 - p3 / (7 : Int32) * (7 : Int32)) = (0 : Int32) then
        (0 : Int32)
      else
        (((2 : Int32) * p2) / (2 : Int32)))
    else
      ((2 : Int32) * p2))))))
  else
    (if p1 = (0 : Int32) then
      p2
    else
    (if p1 = (1 : Int32) then
      (p2 + (10 : Int32))
    else
    (if p1 = (2 : Int32) then
      (p2 / (2 : Int32))
    else
    (if p1 = (3 : Int32) then
      ((p2 + (10 : Int32)) + (p3 / (10 : Int32)))
    else
    (if p1 = (4 : Int32) then
      (if (p3 - p3 / (7 : Int32) * (7 : Int32)) = (0 : Int32) then
        (0 : Int32)
      else
        (p2 / (2 : Int32)))
    else
      p2))))))
def f_X4_firmOnDay (r_t_kinds : (Nat → Int32)) (r_t_holds : (Nat → Int32)) (r_wet : Int32) (p1 : Int32) (p2 : Int32) : Option (Int32) :=
  (if p1 < 0 ∨ 8 ≤ (p1).toNatClampNeg then none else
    (if p1 < 0 ∨ 8 ≤ (p1).toNatClampNeg then none else
      some ((f_X4_firmBy r_wet (r_t_kinds (p1).toNatClampNeg) (r_t_holds (p1).toNatClampNeg) p2))))
def f_X4_firmOf (r_t_kinds : (Nat → Int32)) (r_t_holds : (Nat → Int32)) (r_wet : Int32) (r_day : Int32) (p1 : Int32) : Option (Int32) :=
  (match f_X4_firmOnDay r_t_kinds r_t_holds r_wet p1 r_day with
  | none => none
  | some q1 =>
    some (q1))
def f_X6_of (r_t_kinds : (Nat → Int32)) (r_t_holds : (Nat → Int32)) (r_t_barred : (Nat → Int32)) (r_t_parties : (Nat → Int32)) (r_t_size : Int32) (r_tied : Int32) (r_wet : Int32) (r_day : Int32) (p1 : Int32) (p2 : Int32) : Option (Int32) :=
  (if (f_X6_isClause r_t_size p1) = (0 : Int32) then
    some ((-1 : Int32))
  else
    (if p2 = (0 : Int32) then
      (if p1 < 0 ∨ 8 ≤ (p1).toNatClampNeg then none else
        some ((r_t_kinds (p1).toNatClampNeg)))
    else
    (if p2 = (1 : Int32) then
      (if p1 < 0 ∨ 8 ≤ (p1).toNatClampNeg then none else
        some ((r_t_holds (p1).toNatClampNeg)))
    else
    (if p2 = (2 : Int32) then
      (if p1 < 0 ∨ 8 ≤ (p1).toNatClampNeg then none else
        some ((r_t_barred (p1).toNatClampNeg)))
    else
    (if p2 = (3 : Int32) then
      (if p1 < 0 ∨ 8 ≤ (p1).toNatClampNeg then none else
        some ((r_t_parties (p1).toNatClampNeg)))
    else
    (if p2 = (4 : Int32) then
      (if (f_X6_has r_tied p1) = (0 : Int32) then
        some ((0 : Int32))
      else
        some ((1 : Int32)))
    else
    (if p2 = (5 : Int32) then
      (match f_X4_freeAmong r_t_barred r_tied with
      | none => none
      | some q1 =>
        (if (f_X6_has q1 p1) = (0 : Int32) then
          some ((0 : Int32))
        else
          some ((1 : Int32))))
    else
    (if p2 = (6 : Int32) then
      (match f_X4_firmOf r_t_kinds r_t_holds r_wet r_day p1 with
      | none => none
      | some q2 =>
        some (q2))
    else
      some ((-1 : Int32))))))))))
def f_X7_isClause (m_now : (Nat → Int32)) (p1 : Int32) : Int32 :=
  (f_X7_in p1 (0 : Int32) ((m_now 5) - (1 : Int32)))
def f_X7_has (p0 : Int32) (p1 : Int32) : Int32 :=
  (if ((p0 >>> (p1 &&& (31 : Int32))) &&& (1 : Int32)) = (1 : Int32) then
    (1 : Int32)
  else
    (0 : Int32))
def f_X7_isFree (m_now : (Nat → Int32)) (p1 : Int32) (p2 : Int32) : Option (Int32) :=
  (if (f_X7_has p2 p1) = (0 : Int32) then
    some ((0 : Int32))
  else
    (if ((22 : Int32) + p1) < 0 ∨ 79 ≤ (((22 : Int32) + p1)).toNatClampNeg then none else
      (if ((m_now (((22 : Int32) + p1)).toNatClampNeg) &&& p2) = (0 : Int32) then
        some ((1 : Int32))
      else
        some ((0 : Int32)))))
def f_X7_firmBy (m_now : (Nat → Int32)) (p1 : Int32) (p2 : Int32) : Int32 :=
  (if (m_now 3) = (1 : Int32) then
    (if p1 = (0 : Int32) then
      ((2 : Int32) * p2)
    else
    (if p1 = (1 : Int32) then
      (((2 : Int32) * p2) + (10 : Int32))
    else
    (if p1 = (2 : Int32) then
      (((2 : Int32) * p2) / (2 : Int32))
    else
    (if p1 = (3 : Int32) then
      ((((2 : Int32) * p2) + (10 : Int32)) + ((m_now 0) / (10 : Int32)))
    else
      (if ((m_now 0) - (m_now 0) / (7 : Int32) * (7 : Int32)) = (0 : Int32) then
        (0 : Int32)
      else
        (((2 : Int32) * p2) / (2 : Int32)))))))
  else
    (if p1 = (0 : Int32) then
      p2
    else
    (if p1 = (1 : Int32) then
      (p2 + (10 : Int32))
    else
    (if p1 = (2 : Int32) then
      (p2 / (2 : Int32))
    else
    (if p1 = (3 : Int32) then
      ((p2 + (10 : Int32)) + ((m_now 0) / (10 : Int32)))
    else
      (if ((m_now 0) - (m_now 0) / (7 : Int32) * (7 : Int32)) = (0 : Int32) then
        (0 : Int32)
      else
        (p2 / (2 : Int32))))))))
def f_X7_firm (m_now : (Nat → Int32)) (p1 : Int32) : Option (Int32) :=
  (if ((6 : Int32) + p1) < 0 ∨ 79 ≤ (((6 : Int32) + p1)).toNatClampNeg then none else
    (if ((14 : Int32) + p1) < 0 ∨ 79 ≤ (((14 : Int32) + p1)).toNatClampNeg then none else
      some ((f_X7_firmBy m_now (m_now (((6 : Int32) + p1)).toNatClampNeg) (m_now (((14 : Int32) + p1)).toNatClampNeg)))))
def f_X7_of (m_now : (Nat → Int32)) (p1 : Int32) (p2 : Int32) : Option (Int32) :=
  (if (f_X7_isClause m_now p1) = (0 : Int32) then
    some ((-1 : Int32))
  else
    (if p2 = (0 : Int32) then
      (if ((6 : Int32) + p1) < 0 ∨ 79 ≤ (((6 : Int32) + p1)).toNatClampNeg then none else
        some ((m_now (((6 : Int32) + p1)).toNatClampNeg)))
    else
    (if p2 = (1 : Int32) then
      (if ((14 : Int32) + p1) < 0 ∨ 79 ≤ (((14 : Int32) + p1)).toNatClampNeg then none else
        some ((m_now (((14 : Int32) + p1)).toNatClampNeg)))
    else
    (if p2 = (2 : Int32) then
      (if ((22 : Int32) + p1) < 0 ∨ 79 ≤ (((22 : Int32) + p1)).toNatClampNeg then none else
        some ((m_now (((22 : Int32) + p1)).toNatClampNeg)))
    else
    (if p2 = (3 : Int32) then
      (if ((30 : Int32) + p1) < 0 ∨ 79 ≤ (((30 : Int32) + p1)).toNatClampNeg then none else
        some ((m_now (((30 : Int32) + p1)).toNatClampNeg)))
    else
    (if p2 = (4 : Int32) then
      some ((((m_now 2) >>> (p1 &&& (31 : Int32))) &&& (1 : Int32)))
    else
    (if p2 = (5 : Int32) then
      (match f_X7_isFree m_now p1 (m_now 2) with
      | none => none
      | some q1 =>
        (if q1 = (0 : Int32) then
          some ((0 : Int32))
        else
          some ((1 : Int32))))
    else
    (if p2 = (6 : Int32) then
      (match f_X7_firm m_now p1 with
      | none => none
      | some q2 =>
        some (q2))
    else
      some ((-1 : Int32))))))))))
def fl_X0_owedBy_4 : Nat → (Nat → Int32) → Int32 → Int32 → Int32 → Int32 → Option (Int32)
  | 0, _, _, _, _, _ => none
  | n + 1, r_t_parties, r_t_size, v1, v2, v3 =>
    (if r_t_size ≤ v3 then
      some (v2)
    else
      (if (8 : Int32) ≤ v3 then
        some (v2)
      else
        (if v3 < 0 ∨ 8 ≤ (v3).toNatClampNeg then none else
          (if (r_t_parties (v3).toNatClampNeg) = v1 then
            fl_X0_owedBy_4 n r_t_parties r_t_size v1 (v2 ||| ((1 : Int32) <<< (v3 &&& (31 : Int32)))) (v3 + (1 : Int32))
          else
            fl_X0_owedBy_4 n r_t_parties r_t_size v1 v2 (v3 + (1 : Int32))))))
def f_X0_owedBy (r_t_parties : (Nat → Int32)) (r_t_size : Int32) (p1 : Int32) : Option (Int32) :=
  fl_X0_owedBy_4 300 r_t_parties r_t_size p1 (0 : Int32) (0 : Int32)
def f_X6_party (r_t_parties : (Nat → Int32)) (r_t_size : Int32) (r_tied : Int32) (p1 : Int32) (p2 : Int32) : Option (Int32) :=
  (if (f_X6_isParty p1) = (0 : Int32) then
    some ((-1 : Int32))
  else
    (if (f_X6_isWithin p2 (0 : Int32) (1 : Int32)) = (0 : Int32) then
      some ((-1 : Int32))
    else
      (match f_X0_owedBy r_t_parties r_t_size p1 with
      | none => none
      | some q1 =>
        (if p2 = (0 : Int32) then
          some (q1)
        else
          (if (q1 &&& r_tied) = (0 : Int32) then
            some ((0 : Int32))
          else
            some ((1 : Int32)))))))
def fl_X7_owedBy_4 : Nat → (Nat → Int32) → Int32 → Int32 → Int32 → Option (Int32)
  | 0, _, _, _, _ => none
  | n + 1, m_now, v1, v2, v3 =>
    (if (m_now 5) ≤ v3 then
      some (v2)
    else
      (if ((30 : Int32) + v3) < 0 ∨ 79 ≤ (((30 : Int32) + v3)).toNatClampNeg then none else
        (if (m_now (((30 : Int32) + v3)).toNatClampNeg) = v1 then
          fl_X7_owedBy_4 n m_now v1 (v2 ||| ((1 : Int32) <<< (v3 &&& (31 : Int32)))) (v3 + (1 : Int32))
        else
          fl_X7_owedBy_4 n m_now v1 (v2 ||| (0 : Int32)) (v3 + (1 : Int32)))))
def f_X7_owedBy (m_now : (Nat → Int32)) (p1 : Int32) : Option (Int32) :=
  fl_X7_owedBy_4 300 m_now p1 (0 : Int32) (0 : Int32)
def f_X7_party (m_now : (Nat → Int32)) (p1 : Int32) (p2 : Int32) : Option (Int32) :=
  (if (f_X7_in p1 (0 : Int32) (3 : Int32)) = (0 : Int32) then
    some ((-1 : Int32))
  else
    (if (f_X7_in p2 (0 : Int32) (1 : Int32)) = (0 : Int32) then
      some ((-1 : Int32))
    else
      (if p2 = (0 : Int32) then
        (match f_X7_owedBy m_now p1 with
        | none => none
        | some q1 =>
          some (q1))
      else
        (match f_X7_owedBy m_now p1 with
        | none => none
        | some q2 =>
          (if (q2 &&& (m_now 2)) = (0 : Int32) then
            some ((0 : Int32))
          else
            some ((1 : Int32)))))))
def f_X6_owe (r_t_parties : (Nat → Int32)) (r_t_size : Int32) (p1 : Int32) (p2 : Int32) : Option (Int32 × (Nat → Int32)) :=
  (if (f_X6_isClause r_t_size p1) = (0 : Int32) then
    some ((-1 : Int32), r_t_parties)
  else
    (if (f_X6_isParty p2) = (0 : Int32) then
      some ((-1 : Int32), r_t_parties)
    else
      (if p1 < 0 ∨ 8 ≤ (p1).toNatClampNeg then none else
        (if p1 < 0 ∨ 8 ≤ (p1).toNatClampNeg then none else
          some ((r_t_parties (p1).toNatClampNeg), (upd r_t_parties (p1).toNatClampNeg p2))))))
def f_X7_owe (m_now : (Nat → Int32)) (p1 : Int32) (p2 : Int32) : Option (Int32 × (Nat → Int32)) :=
  (if (f_X7_isClause m_now p1) = (0 : Int32) then
    some ((-1 : Int32), m_now)
  else
    (if (f_X7_in p2 (0 : Int32) (3 : Int32)) = (0 : Int32) then
      some ((-1 : Int32), m_now)
    else
      (if ((30 : Int32) + p1) < 0 ∨ 79 ≤ (((30 : Int32) + p1)).toNatClampNeg then none else
        (if ((30 : Int32) + p1) < 0 ∨ 79 ≤ (((30 : Int32) + p1)).toNatClampNeg then none else
          some ((m_now (((30 : Int32) + p1)).toNatClampNeg), (upd m_now (((30 : Int32) + p1)).toNatClampNeg p2))))))
def f_X3_addLetter (d_letters : (Nat → Int32)) (d_size : Int32) (p1 : Int32) : Option (Int32 × (Nat → Int32) × Int32) :=
  (if d_size < (0 : Int32) then
    some ((-3 : Int32), d_letters, d_size)
  else
    (if d_size < (100 : Int32) then
      (if d_size < 0 ∨ 100 ≤ (d_size).toNatClampNeg then none else
        some ((d_size + (1 : Int32)), (upd d_letters (d_size).toNatClampNeg p1), (d_size + (1 : Int32))))
    else
      some ((-3 : Int32), d_letters, d_size)))
def f_X6_type (d_letters : (Nat → Int32)) (d_size : Int32) (p1 : Int32) : Option (Int32 × (Nat → Int32) × Int32) :=
  (if (f_X6_isWithin p1 (32 : Int32) (126 : Int32)) = (0 : Int32) then
    some ((-1 : Int32), d_letters, d_size)
  else
    (match f_X3_addLetter d_letters d_size p1 with
    | none => none
    | some q1 =>
      some (q1.1, q1.2.1, q1.2.2)))
def f_X7_type (m_letters : Int32) (m_tape : (Nat → Int32)) (p1 : Int32) : Option (Int32 × Int32 × (Nat → Int32)) :=
  (if (f_X7_in p1 (32 : Int32) (126 : Int32)) = (0 : Int32) then
    some ((-1 : Int32), m_letters, m_tape)
  else
    (if m_letters = (100 : Int32) then
      some ((-3 : Int32), m_letters, m_tape)
    else
      (if m_letters < 0 ∨ 100 ≤ (m_letters).toNatClampNeg then none else
        some ((m_letters + (1 : Int32)), (m_letters + (1 : Int32)), (upd m_tape (m_letters).toNatClampNeg p1)))))
def f_X3_letterAt (d_letters : (Nat → Int32)) (d_size : Int32) (p1 : Int32) : Option (Int32) :=
  (if p1 < (0 : Int32) then
    some ((-1 : Int32))
  else
    (if d_size ≤ p1 then
      some ((-1 : Int32))
    else
      (if (100 : Int32) ≤ p1 then
        some ((-1 : Int32))
      else
        (if p1 < 0 ∨ 100 ≤ (p1).toNatClampNeg then none else
          some ((d_letters (p1).toNatClampNeg))))))
def fl_X3_nextLetter_0 : Nat → (Nat → Int32) → Int32 → Int32 → Option (Int32 × Int32)
  | 0, _, _, _ => none
  | n + 1, d_letters, d_size, d_at =>
    (if d_size ≤ d_at then
      (match f_X3_letterAt d_letters d_size d_at with
      | none => none
      | some q1 =>
        some (q1, d_at))
    else
      (match f_X3_letterAt d_letters d_size d_at with
      | none => none
      | some q2 =>
        (if q2 = (32 : Int32) then
          fl_X3_nextLetter_0 n d_letters d_size (d_at + (1 : Int32))
        else
          some (q2, d_at))))
def f_X3_nextLetter (d_letters : (Nat → Int32)) (d_size : Int32) (d_at : Int32) : Option (Int32 × Int32) :=
  fl_X3_nextLetter_0 300 d_letters d_size d_at
def f_X3_kindOf (p0 : Int32) : Int32 :=
  (if p0 = (103 : Int32) then
    (4 : Int32)
  else
  (if p0 = (104 : Int32) then
    (0 : Int32)
  else
  (if p0 = (105 : Int32) then
    (-1 : Int32)
  else
  (if p0 = (106 : Int32) then
    (-1 : Int32)
  else
  (if p0 = (107 : Int32) then
    (-1 : Int32)
  else
  (if p0 = (108 : Int32) then
    (2 : Int32)
  else
  (if p0 = (109 : Int32) then
    (-1 : Int32)
  else
  (if p0 = (110 : Int32) then
    (-1 : Int32)
  else
  (if p0 = (111 : Int32) then
    (3 : Int32)
  else
  (if p0 = (112 : Int32) then
    (-1 : Int32)
  else
  (if p0 = (113 : Int32) then
    (-1 : Int32)
  else
  (if p0 = (114 : Int32) then
    (-1 : Int32)
  else
  (if p0 = (115 : Int32) then
    (1 : Int32)
  else
    (-1 : Int32))))))))))))))
def f_X3_isDigit (p0 : Int32) : Int32 :=
  (if p0 < (48 : Int32) then
    (0 : Int32)
  else
    (if (57 : Int32) < p0 then
      (0 : Int32)
    else
      (1 : Int32)))
def f_X3_readHolds (d_letters : (Nat → Int32)) (d_size : Int32) (d_at : Int32) : Option (Int32 × Int32) :=
  (match f_X3_nextLetter d_letters d_size d_at with
  | none => none
  | some q1 =>
    (if (f_X3_isDigit q1.1) = (0 : Int32) then
      some ((-1 : Int32), q1.2)
    else
      (match f_X3_letterAt d_letters d_size q1.2 with
      | none => none
      | some q2 =>
        (match f_X3_letterAt d_letters d_size (q1.2 + (1 : Int32)) with
        | none => none
        | some q3 =>
          (if (f_X3_isDigit q3) = (0 : Int32) then
            (if (f_X6_isWithin (q2 - (48 : Int32)) (1 : Int32) (20 : Int32)) = (0 : Int32) then
              some ((-1 : Int32), q1.2)
            else
              some ((q2 - (48 : Int32)), (q1.2 + (1 : Int32))))
          else
            (if (f_X6_isWithin ((((10 : Int32) * (q2 - (48 : Int32))) + q3) - (48 : Int32)) (1 : Int32) (20 : Int32)) = (0 : Int32) then
              some ((-1 : Int32), q1.2)
            else
              some (((((10 : Int32) * (q2 - (48 : Int32))) + q3) - (48 : Int32)), ((q1.2 + (1 : Int32)) + (1 : Int32)))))))))
def fl_X3_readBarred_6 : Nat → (Nat → Int32) → Int32 → Int32 → Int32 → Int32 → Int32 → Int32 → Option (Int32 × Int32)
  | 0, _, _, _, _, _, _, _ => none
  | n + 1, d_letters, d_t_size, d_size, d_at, v1, v2, v3 =>
    (if (8 : Int32) ≤ v3 then
      some (v1, d_at)
    else
      (match f_X3_nextLetter d_letters d_size d_at with
      | none => none
      | some q1 =>
        (if (q1.1 - (48 : Int32)) < v2 then
          some (v1, q1.2)
        else
          (if (q1.1 - (48 : Int32)) < d_t_size then
            fl_X3_readBarred_6 n d_letters d_t_size d_size (q1.2 + (1 : Int32)) (v1 ||| ((1 : Int32) <<< ((q1.1 - (48 : Int32)) &&& (31 : Int32)))) ((q1.1 - (48 : Int32)) + (1 : Int32)) (v3 + (1 : Int32))
          else
            some (v1, q1.2)))))
def f_X3_readBarred (d_letters : (Nat → Int32)) (d_t_size : Int32) (d_size : Int32) (d_at : Int32) : Option (Int32 × Int32) :=
  fl_X3_readBarred_6 300 d_letters d_t_size d_size d_at (0 : Int32) (0 : Int32) (0 : Int32)
def f_X0_add_1 (d_t_kinds : (Nat → Int32)) (d_t_holds : (Nat → Int32)) (d_t_barred : (Nat → Int32)) (d_t_parties : (Nat → Int32)) (d_t_size : Int32) (p1 : Int32) (p2 : Int32) (p3 : Int32) (p4 : Int32) : Option (Int32 × (Nat → Int32) × (Nat → Int32) × (Nat → Int32) × (Nat → Int32) × Int32) :=
  (if d_t_size < (0 : Int32) then
    some ((-3 : Int32), d_t_kinds, d_t_holds, d_t_barred, d_t_parties, d_t_size)
  else
    (if d_t_size < (8 : Int32) then
      (if d_t_size < 0 ∨ 8 ≤ (d_t_size).toNatClampNeg then none else
        (if d_t_size < 0 ∨ 8 ≤ (d_t_size).toNatClampNeg then none else
          (if d_t_size < 0 ∨ 8 ≤ (d_t_size).toNatClampNeg then none else
            (if d_t_size < 0 ∨ 8 ≤ (d_t_size).toNatClampNeg then none else
              some (d_t_size, (upd d_t_kinds (d_t_size).toNatClampNeg p1), (upd d_t_holds (d_t_size).toNatClampNeg p2), (upd d_t_barred (d_t_size).toNatClampNeg p3), (upd d_t_parties (d_t_size).toNatClampNeg p4), (d_t_size + (1 : Int32)))))))
    else
      some ((-3 : Int32), d_t_kinds, d_t_holds, d_t_barred, d_t_parties, d_t_size)))
def f_X3_readClause (d_letters : (Nat → Int32)) (d_t_kinds : (Nat → Int32)) (d_t_holds : (Nat → Int32)) (d_t_barred : (Nat → Int32)) (d_t_parties : (Nat → Int32)) (d_t_size : Int32) (d_size : Int32) (d_at : Int32) : Option (Int32 × (Nat → Int32) × (Nat → Int32) × (Nat → Int32) × (Nat → Int32) × Int32 × Int32) :=
  (match f_X3_nextLetter d_letters d_size d_at with
  | none => none
  | some q1 =>
    (if (0 : Int32) ≤ (f_X3_kindOf q1.1) then
      (match f_X3_readHolds d_letters d_size (q1.2 + (1 : Int32)) with
      | none => none
      | some q2 =>
        (if (0 : Int32) ≤ q2.1 then
          (match f_X3_nextLetter d_letters d_size q2.2 with
          | none => none
          | some q3 =>
            (if q3.1 = (47 : Int32) then
              (match f_X3_readBarred d_letters d_t_size d_size (q3.2 + (1 : Int32)) with
              | none => none
              | some q4 =>
                (if q4.1 = (0 : Int32) then
                  some ((0 : Int32), d_t_kinds, d_t_holds, d_t_barred, d_t_parties, d_t_size, q4.2)
                else
                  (match f_X3_nextLetter d_letters d_size q4.2 with
                  | none => none
                  | some q5 =>
                    (if q5.1 = (64 : Int32) then
                      (match f_X3_nextLetter d_letters d_size (q5.2 + (1 : Int32)) with
                      | none => none
                      | some q6 =>
                        (if (f_X6_isParty (q6.1 - (48 : Int32))) = (0 : Int32) then
                          some ((0 : Int32), d_t_kinds, d_t_holds, d_t_barred, d_t_parties, d_t_size, q6.2)
                        else
                          (match f_X0_add_1 d_t_kinds d_t_holds d_t_barred d_t_parties d_t_size (f_X3_kindOf q1.1) q2.1 q4.1 (q6.1 - (48 : Int32)) with
                          | none => none
                          | some q7 =>
                            (if q7.1 < (0 : Int32) then
                              some ((0 : Int32), q7.2.1, q7.2.2.1, q7.2.2.2.1, q7.2.2.2.2.1, q7.2.2.2.2.2, (q6.2 + (1 : Int32)))
                            else
                              some ((1 : Int32), q7.2.1, q7.2.2.1, q7.2.2.2.1, q7.2.2.2.2.1, q7.2.2.2.2.2, (q6.2 + (1 : Int32)))))))
                    else
                      (match f_X0_add_1 d_t_kinds d_t_holds d_t_barred d_t_parties d_t_size (f_X3_kindOf q1.1) q2.1 q4.1 (0 : Int32) with
                      | none => none
                      | some q8 =>
                        (if q8.1 < (0 : Int32) then
                          some ((0 : Int32), q8.2.1, q8.2.2.1, q8.2.2.2.1, q8.2.2.2.2.1, q8.2.2.2.2.2, q5.2)
                        else
                          some ((1 : Int32), q8.2.1, q8.2.2.1, q8.2.2.2.1, q8.2.2.2.2.1, q8.2.2.2.2.2, q5.2)))))))
            else
              (match f_X3_nextLetter d_letters d_size q3.2 with
              | none => none
              | some q9 =>
                (if q9.1 = (64 : Int32) then
                  (match f_X3_nextLetter d_letters d_size (q9.2 + (1 : Int32)) with
                  | none => none
                  | some q10 =>
                    (if (f_X6_isParty (q10.1 - (48 : Int32))) = (0 : Int32) then
                      some ((0 : Int32), d_t_kinds, d_t_holds, d_t_barred, d_t_parties, d_t_size, q10.2)
                    else
                      (match f_X0_add_1 d_t_kinds d_t_holds d_t_barred d_t_parties d_t_size (f_X3_kindOf q1.1) q2.1 (0 : Int32) (q10.1 - (48 : Int32)) with
                      | none => none
                      | some q11 =>
                        (if q11.1 < (0 : Int32) then
                          some ((0 : Int32), q11.2.1, q11.2.2.1, q11.2.2.2.1, q11.2.2.2.2.1, q11.2.2.2.2.2, (q10.2 + (1 : Int32)))
                        else
                          some ((1 : Int32), q11.2.1, q11.2.2.1, q11.2.2.2.1, q11.2.2.2.2.1, q11.2.2.2.2.2, (q10.2 + (1 : Int32)))))))
                else
                  (match f_X0_add_1 d_t_kinds d_t_holds d_t_barred d_t_parties d_t_size (f_X3_kindOf q1.1) q2.1 (0 : Int32) (0 : Int32) with
                  | none => none
                  | some q12 =>
                    (if q12.1 < (0 : Int32) then
                      some ((0 : Int32), q12.2.1, q12.2.2.1, q12.2.2.2.1, q12.2.2.2.2.1, q12.2.2.2.2.2, q9.2)
                    else
                      some ((1 : Int32), q12.2.1, q12.2.2.1, q12.2.2.2.1, q12.2.2.2.2.1, q12.2.2.2.2.2, q9.2)))))))
        else
          some ((0 : Int32), d_t_kinds, d_t_holds, d_t_barred, d_t_parties, d_t_size, q2.2)))
    else
      some ((0 : Int32), d_t_kinds, d_t_holds, d_t_barred, d_t_parties, d_t_size, q1.2)))
def fl_X3_readClauses_2 : Nat → (Nat → Int32) → (Nat → Int32) → (Nat → Int32) → (Nat → Int32) → (Nat → Int32) → Int32 → Int32 → Int32 → Int32 → Option (Int32 × (Nat → Int32) × (Nat → Int32) × (Nat → Int32) × (Nat → Int32) × Int32 × Int32)
  | 0, _, _, _, _, _, _, _, _, _ => none
  | n + 1, d_letters, d_t_kinds, d_t_holds, d_t_barred, d_t_parties, d_t_size, d_size, d_at, v1 =>
    (if (8 : Int32) < v1 then
      some ((0 : Int32), d_t_kinds, d_t_holds, d_t_barred, d_t_parties, d_t_size, d_at)
    else
      (match f_X3_readClause d_letters d_t_kinds d_t_holds d_t_barred d_t_parties d_t_size d_size d_at with
      | none => none
      | some q1 =>
        (if q1.1 = (0 : Int32) then
          some ((0 : Int32), q1.2.1, q1.2.2.1, q1.2.2.2.1, q1.2.2.2.2.1, q1.2.2.2.2.2.1, q1.2.2.2.2.2.2)
        else
          (match f_X3_nextLetter d_letters d_size q1.2.2.2.2.2.2 with
          | none => none
          | some q2 =>
            (if q2.1 = (-1 : Int32) then
              some ((1 : Int32), q1.2.1, q1.2.2.1, q1.2.2.2.1, q1.2.2.2.2.1, q1.2.2.2.2.2.1, q2.2)
            else
              (if q2.1 = (44 : Int32) then
                (if v1 = (8 : Int32) then
                  some ((0 : Int32), q1.2.1, q1.2.2.1, q1.2.2.2.1, q1.2.2.2.2.1, q1.2.2.2.2.2.1, q2.2)
                else
                  fl_X3_readClauses_2 n d_letters q1.2.1 q1.2.2.1 q1.2.2.2.1 q1.2.2.2.2.1 q1.2.2.2.2.2.1 d_size (q2.2 + (1 : Int32)) (v1 + (1 : Int32)))
              else
                some ((0 : Int32), q1.2.1, q1.2.2.1, q1.2.2.2.1, q1.2.2.2.2.1, q1.2.2.2.2.2.1, q2.2)))))))
def f_X3_readClauses (d_letters : (Nat → Int32)) (d_t_kinds : (Nat → Int32)) (d_t_holds : (Nat → Int32)) (d_t_barred : (Nat → Int32)) (d_t_parties : (Nat → Int32)) (d_t_size : Int32) (d_size : Int32) (d_at : Int32) : Option (Int32 × (Nat → Int32) × (Nat → Int32) × (Nat → Int32) × (Nat → Int32) × Int32 × Int32) :=
  fl_X3_readClauses_2 300 d_letters d_t_kinds d_t_holds d_t_barred d_t_parties d_t_size d_size d_at (1 : Int32)
def f_X3_readTape (d_letters : (Nat → Int32)) (d_t_kinds : (Nat → Int32)) (d_t_holds : (Nat → Int32)) (d_t_barred : (Nat → Int32)) (d_t_parties : (Nat → Int32)) (d_t_size : Int32) (d_size : Int32) (d_at : Int32) : Option (Int32 × (Nat → Int32) × (Nat → Int32) × (Nat → Int32) × (Nat → Int32) × Int32 × Int32 × Int32) :=
  (match f_X3_readClauses d_letters d_t_kinds d_t_holds d_t_barred d_t_parties (0 : Int32) d_size (0 : Int32) with
  | none => none
  | some q1 =>
    (if q1.1 = (0 : Int32) then
      some (((-20 : Int32) - q1.2.2.2.2.2.2), q1.2.1, q1.2.2.1, q1.2.2.2.1, q1.2.2.2.2.1, q1.2.2.2.2.2.1, (0 : Int32), q1.2.2.2.2.2.2)
    else
      some (q1.2.2.2.2.2.1, q1.2.1, q1.2.2.1, q1.2.2.2.1, q1.2.2.2.2.1, q1.2.2.2.2.2.1, (0 : Int32), q1.2.2.2.2.2.2)))
def f_X0_become (r_t_kinds : (Nat → Int32)) (r_t_holds : (Nat → Int32)) (r_t_barred : (Nat → Int32)) (r_t_parties : (Nat → Int32)) (r_t_size : Int32) (d_t_kinds : (Nat → Int32)) (d_t_holds : (Nat → Int32)) (d_t_barred : (Nat → Int32)) (d_t_parties : (Nat → Int32)) (d_t_size : Int32) : Option ((Nat → Int32) × (Nat → Int32) × (Nat → Int32) × (Nat → Int32) × Int32) :=
  some ((va_cpy d_t_kinds r_t_kinds 0 0 8), (va_cpy d_t_holds r_t_holds 0 0 8), (va_cpy d_t_barred r_t_barred 0 0 8), (va_cpy d_t_parties r_t_parties 0 0 8), d_t_size)
def f_X4_startWith (r_t_kinds : (Nat → Int32)) (r_t_holds : (Nat → Int32)) (r_t_barred : (Nat → Int32)) (r_t_parties : (Nat → Int32)) (r_t_size : Int32) (r_p_size : Int32) (r_tied : Int32) (r_wars : Int32) (r_wet : Int32) (r_day : Int32) (d_t_kinds : (Nat → Int32)) (d_t_holds : (Nat → Int32)) (d_t_barred : (Nat → Int32)) (d_t_parties : (Nat → Int32)) (d_t_size : Int32) : Option ((Nat → Int32) × (Nat → Int32) × (Nat → Int32) × (Nat → Int32) × Int32 × Int32 × Int32 × Int32 × Int32 × Int32) :=
  (match f_X0_become r_t_kinds r_t_holds r_t_barred r_t_parties r_t_size d_t_kinds d_t_holds d_t_barred d_t_parties d_t_size with
  | none => none
  | some q1 =>
    some (q1.1, q1.2.1, q1.2.2.1, q1.2.2.2.1, q1.2.2.2.2, (0 : Int32), (((1 : Int32) <<< (q1.2.2.2.2 &&& (31 : Int32))) - (1 : Int32)), (0 : Int32), (0 : Int32), (0 : Int32)))
def f_X6_agreement (r_t_kinds : (Nat → Int32)) (r_t_holds : (Nat → Int32)) (r_t_barred : (Nat → Int32)) (r_t_parties : (Nat → Int32)) (r_t_size : Int32) (r_p_size : Int32) (r_tied : Int32) (r_wars : Int32) (r_wet : Int32) (r_day : Int32) (d_letters : (Nat → Int32)) (d_t_kinds : (Nat → Int32)) (d_t_holds : (Nat → Int32)) (d_t_barred : (Nat → Int32)) (d_t_parties : (Nat → Int32)) (d_t_size : Int32) (d_size : Int32) (d_at : Int32) : Option (Int32 × (Nat → Int32) × (Nat → Int32) × (Nat → Int32) × (Nat → Int32) × Int32 × Int32 × Int32 × Int32 × Int32 × Int32 × (Nat → Int32) × (Nat → Int32) × (Nat → Int32) × (Nat → Int32) × Int32 × Int32 × Int32) :=
  (match f_X3_readTape d_letters d_t_kinds d_t_holds d_t_barred d_t_parties d_t_size d_size d_at with
  | none => none
  | some q1 =>
    (if q1.1 ≤ (0 : Int32) then
      some (q1.1, r_t_kinds, r_t_holds, r_t_barred, r_t_parties, r_t_size, r_p_size, r_tied, r_wars, r_wet, r_day, q1.2.1, q1.2.2.1, q1.2.2.2.1, q1.2.2.2.2.1, q1.2.2.2.2.2.1, q1.2.2.2.2.2.2.1, q1.2.2.2.2.2.2.2)
    else
      (match f_X4_startWith r_t_kinds r_t_holds r_t_barred r_t_parties r_t_size r_p_size r_tied r_wars r_wet r_day q1.2.1 q1.2.2.1 q1.2.2.2.1 q1.2.2.2.2.1 q1.2.2.2.2.2.1 with
      | none => none
      | some q2 =>
        some (q1.1, q2.1, q2.2.1, q2.2.2.1, q2.2.2.2.1, q2.2.2.2.2.1, q2.2.2.2.2.2.1, q2.2.2.2.2.2.2.1, q2.2.2.2.2.2.2.2.1, q2.2.2.2.2.2.2.2.2.1, q2.2.2.2.2.2.2.2.2.2, q1.2.1, q1.2.2.1, q1.2.2.2.1, q1.2.2.2.2.1, q1.2.2.2.2.2.1, q1.2.2.2.2.2.2.1, q1.2.2.2.2.2.2.2))))
def fl_X7_peek_0 : Nat → Int32 → (Nat → Int32) → Int32 → Option (Int32 × Int32)
  | 0, _, _, _ => none
  | n + 1, m_letters, m_tape, m_position =>
    (if m_letters ≤ m_position then
      (if m_letters ≤ m_position then
        some ((0 : Int32), m_position)
      else
        (if m_position < 0 ∨ 100 ≤ (m_position).toNatClampNeg then none else
          some ((m_tape (m_position).toNatClampNeg), m_position)))
    else
      (if m_position < 0 ∨ 100 ≤ (m_position).toNatClampNeg then none else
        (if (m_tape (m_position).toNatClampNeg) = (32 : Int32) then
          fl_X7_peek_0 n m_letters m_tape (m_position + (1 : Int32))
        else
          (if m_letters ≤ m_position then
            some ((0 : Int32), m_position)
          else
            (if m_position < 0 ∨ 100 ≤ (m_position).toNatClampNeg then none else
              some ((m_tape (m_position).toNatClampNeg), m_position))))))
def f_X7_peek (m_letters : Int32) (m_tape : (Nat → Int32)) (m_position : Int32) : Option (Int32 × Int32) :=
  fl_X7_peek_0 300 m_letters m_tape m_position
def f_X7_kindBy (p0 : Int32) : Int32 :=
  (if p0 = (104 : Int32) then
    (0 : Int32)
  else
    (if p0 = (115 : Int32) then
      (1 : Int32)
    else
      (if p0 = (108 : Int32) then
        (2 : Int32)
      else
        (if p0 = (111 : Int32) then
          (3 : Int32)
        else
          (if p0 = (103 : Int32) then
            (4 : Int32)
          else
            (-1 : Int32))))))
def f_X7_isDigit (m_letters : Int32) (m_tape : (Nat → Int32)) (m_position : Int32) (m_number : Int32) (p1 : Int32) (p2 : Int32) : Option (Int32 × Int32 × Int32) :=
  (match f_X7_peek m_letters m_tape m_position with
  | none => none
  | some q1 =>
    (if (f_X7_in (q1.1 - (48 : Int32)) p1 p2) = (0 : Int32) then
      some ((0 : Int32), q1.2, (q1.1 - (48 : Int32)))
    else
      some ((1 : Int32), (q1.2 + (1 : Int32)), (q1.1 - (48 : Int32)))))
def f_X7_isNumber (m_letters : Int32) (m_tape : (Nat → Int32)) (m_position : Int32) (m_number : Int32) : Option (Int32 × Int32 × Int32) :=
  (match f_X7_isDigit m_letters m_tape m_position m_number (0 : Int32) (9 : Int32) with
  | none => none
  | some q1 =>
    (if q1.1 = (0 : Int32) then
      some ((0 : Int32), q1.2.1, q1.2.2)
    else
      (if m_letters ≤ q1.2.1 then
        (if (f_X7_in q1.2.2 (1 : Int32) (20 : Int32)) = (0 : Int32) then
          (if (f_X7_in q1.2.2 (1 : Int32) (20 : Int32)) = (0 : Int32) then
            some ((0 : Int32), (q1.2.1 - (1 : Int32)), q1.2.2)
          else
            (if (q1.2.1 - (1 : Int32)) = m_letters then
              some ((1 : Int32), (q1.2.1 - (1 : Int32)), q1.2.2)
            else
              (if (q1.2.1 - (1 : Int32)) < 0 ∨ 100 ≤ ((q1.2.1 - (1 : Int32))).toNatClampNeg then none else
                (if (f_X7_in (m_tape ((q1.2.1 - (1 : Int32))).toNatClampNeg) (48 : Int32) (57 : Int32)) = (0 : Int32) then
                  some ((1 : Int32), (q1.2.1 - (1 : Int32)), q1.2.2)
                else
                  some ((0 : Int32), (q1.2.1 - (1 : Int32)), q1.2.2)))))
        else
          (if (f_X7_in q1.2.2 (1 : Int32) (20 : Int32)) = (0 : Int32) then
            some ((0 : Int32), q1.2.1, q1.2.2)
          else
            (if q1.2.1 = m_letters then
              some ((1 : Int32), q1.2.1, q1.2.2)
            else
              (if q1.2.1 < 0 ∨ 100 ≤ (q1.2.1).toNatClampNeg then none else
                (if (f_X7_in (m_tape (q1.2.1).toNatClampNeg) (48 : Int32) (57 : Int32)) = (0 : Int32) then
                  some ((1 : Int32), q1.2.1, q1.2.2)
                else
                  some ((0 : Int32), q1.2.1, q1.2.2))))))
      else
        (if q1.2.1 < 0 ∨ 100 ≤ (q1.2.1).toNatClampNeg then none else
          (if (f_X7_in (m_tape (q1.2.1).toNatClampNeg) (48 : Int32) (57 : Int32)) = (0 : Int32) then
            (if (f_X7_in q1.2.2 (1 : Int32) (20 : Int32)) = (0 : Int32) then
              (if (f_X7_in q1.2.2 (1 : Int32) (20 : Int32)) = (0 : Int32) then
                some ((0 : Int32), (q1.2.1 - (1 : Int32)), q1.2.2)
              else
                (if (q1.2.1 - (1 : Int32)) = m_letters then
                  some ((1 : Int32), (q1.2.1 - (1 : Int32)), q1.2.2)
                else
                  (if (q1.2.1 - (1 : Int32)) < 0 ∨ 100 ≤ ((q1.2.1 - (1 : Int32))).toNatClampNeg then none else
                    (if (f_X7_in (m_tape ((q1.2.1 - (1 : Int32))).toNatClampNeg) (48 : Int32) (57 : Int32)) = (0 : Int32) then
                      some ((1 : Int32), (q1.2.1 - (1 : Int32)), q1.2.2)
                    else
                      some ((0 : Int32), (q1.2.1 - (1 : Int32)), q1.2.2)))))
            else
              (if (f_X7_in q1.2.2 (1 : Int32) (20 : Int32)) = (0 : Int32) then
                some ((0 : Int32), q1.2.1, q1.2.2)
              else
                (if q1.2.1 = m_letters then
                  some ((1 : Int32), q1.2.1, q1.2.2)
                else
                  (if q1.2.1 < 0 ∨ 100 ≤ (q1.2.1).toNatClampNeg then none else
                    (if (f_X7_in (m_tape (q1.2.1).toNatClampNeg) (48 : Int32) (57 : Int32)) = (0 : Int32) then
                      some ((1 : Int32), q1.2.1, q1.2.2)
                    else
                      some ((0 : Int32), q1.2.1, q1.2.2))))))
          else
            (if q1.2.1 < 0 ∨ 100 ≤ (q1.2.1).toNatClampNeg then none else
              (if (f_X7_in ((((10 : Int32) * q1.2.2) + (m_tape (q1.2.1).toNatClampNeg)) - (48 : Int32)) (1 : Int32) (20 : Int32)) = (0 : Int32) then
                (if (f_X7_in ((((10 : Int32) * q1.2.2) + (m_tape (q1.2.1).toNatClampNeg)) - (48 : Int32)) (1 : Int32) (20 : Int32)) = (0 : Int32) then
                  some ((0 : Int32), (q1.2.1 - (1 : Int32)), ((((10 : Int32) * q1.2.2) + (m_tape (q1.2.1).toNatClampNeg)) - (48 : Int32)))
                else
                  (if (q1.2.1 - (1 : Int32)) = m_letters then
                    some ((1 : Int32), (q1.2.1 - (1 : Int32)), ((((10 : Int32) * q1.2.2) + (m_tape (q1.2.1).toNatClampNeg)) - (48 : Int32)))
                  else
                    (if (q1.2.1 - (1 : Int32)) < 0 ∨ 100 ≤ ((q1.2.1 - (1 : Int32))).toNatClampNeg then none else
                      (if (f_X7_in (m_tape ((q1.2.1 - (1 : Int32))).toNatClampNeg) (48 : Int32) (57 : Int32)) = (0 : Int32) then
                        some ((1 : Int32), (q1.2.1 - (1 : Int32)), ((((10 : Int32) * q1.2.2) + (m_tape (q1.2.1).toNatClampNeg)) - (48 : Int32)))
                      else
                        some ((0 : Int32), (q1.2.1 - (1 : Int32)), ((((10 : Int32) * q1.2.2) + (m_tape (q1.2.1).toNatClampNeg)) - (48 : Int32)))))))
              else
                (if (f_X7_in ((((10 : Int32) * q1.2.2) + (m_tape (q1.2.1).toNatClampNeg)) - (48 : Int32)) (1 : Int32) (20 : Int32)) = (0 : Int32) then
                  some ((0 : Int32), (q1.2.1 + (1 : Int32)), ((((10 : Int32) * q1.2.2) + (m_tape (q1.2.1).toNatClampNeg)) - (48 : Int32)))
                else
                  (if (q1.2.1 + (1 : Int32)) = m_letters then
                    some ((1 : Int32), (q1.2.1 + (1 : Int32)), ((((10 : Int32) * q1.2.2) + (m_tape (q1.2.1).toNatClampNeg)) - (48 : Int32)))
                  else
                    (if (q1.2.1 + (1 : Int32)) < 0 ∨ 100 ≤ ((q1.2.1 + (1 : Int32))).toNatClampNeg then none else
                      (if (f_X7_in (m_tape ((q1.2.1 + (1 : Int32))).toNatClampNeg) (48 : Int32) (57 : Int32)) = (0 : Int32) then
                        some ((1 : Int32), (q1.2.1 + (1 : Int32)), ((((10 : Int32) * q1.2.2) + (m_tape (q1.2.1).toNatClampNeg)) - (48 : Int32)))
                      else
                        some ((0 : Int32), (q1.2.1 + (1 : Int32)), ((((10 : Int32) * q1.2.2) + (m_tape (q1.2.1).toNatClampNeg)) - (48 : Int32))))))))))))))
def f_X7_isSign (m_letters : Int32) (m_tape : (Nat → Int32)) (m_position : Int32) (p1 : Int32) : Option (Int32 × Int32) :=
  (match f_X7_peek m_letters m_tape m_position with
  | none => none
  | some q1 =>
    (if q1.1 = p1 then
      some ((1 : Int32), (q1.2 + (1 : Int32)))
    else
      some ((0 : Int32), q1.2)))
def f_X7_add_1 (m_read : (Nat → Int32)) (p1 : Int32) (p2 : Int32) (p3 : Int32) (p4 : Int32) : Option (Int32 × (Nat → Int32)) :=
  (if ((6 : Int32) + (m_read 5)) < 0 ∨ 79 ≤ (((6 : Int32) + (m_read 5))).toNatClampNeg then none else
    (if ((14 : Int32) + (m_read 5)) < 0 ∨ 79 ≤ (((14 : Int32) + (m_read 5))).toNatClampNeg then none else
      (if ((22 : Int32) + (m_read 5)) < 0 ∨ 79 ≤ (((22 : Int32) + (m_read 5))).toNatClampNeg then none else
        (if ((30 : Int32) + (m_read 5)) < 0 ∨ 79 ≤ (((30 : Int32) + (m_read 5))).toNatClampNeg then none else
          some ((m_read 5), (upd (upd (upd (upd (upd (upd m_read (((6 : Int32) + (m_read 5))).toNatClampNeg p1) (((14 : Int32) + (m_read 5))).toNatClampNeg p2) (((22 : Int32) + (m_read 5))).toNatClampNeg p3) (((30 : Int32) + (m_read 5))).toNatClampNeg p4) 2 (((upd (upd (upd (upd m_read (((6 : Int32) + (m_read 5))).toNatClampNeg p1) (((14 : Int32) + (m_read 5))).toNatClampNeg p2) (((22 : Int32) + (m_read 5))).toNatClampNeg p3) (((30 : Int32) + (m_read 5))).toNatClampNeg p4) 2) ||| ((1 : Int32) <<< ((m_read 5) &&& (31 : Int32))))) 5 (((upd (upd (upd (upd (upd m_read (((6 : Int32) + (m_read 5))).toNatClampNeg p1) (((14 : Int32) + (m_read 5))).toNatClampNeg p2) (((22 : Int32) + (m_read 5))).toNatClampNeg p3) (((30 : Int32) + (m_read 5))).toNatClampNeg p4) 2 (((upd (upd (upd (upd m_read (((6 : Int32) + (m_read 5))).toNatClampNeg p1) (((14 : Int32) + (m_read 5))).toNatClampNeg p2) (((22 : Int32) + (m_read 5))).toNatClampNeg p3) (((30 : Int32) + (m_read 5))).toNatClampNeg p4) 2) ||| ((1 : Int32) <<< ((m_read 5) &&& (31 : Int32))))) 5) + (1 : Int32))))))))
def fl_X7_isClauseItem_78 : Nat → Int32 → (Nat → Int32) → Int32 → Int32 → (Nat → Int32) → Int32 → Int32 → Int32 → Int32 → Option (Int32 × Int32 × Int32 × (Nat → Int32))
  | 0, _, _, _, _, _, _, _, _, _ => none
  | n + 1, m_letters, m_tape, m_position, m_number, m_read, v1, v2, v3, v4 =>
    (match f_X7_peek m_letters m_tape m_position with
    | none => none
    | some q9 =>
      (if (f_X7_in q9.1 (48 : Int32) (57 : Int32)) = (0 : Int32) then
        (match f_X7_isSign m_letters m_tape q9.2 (64 : Int32) with
        | none => none
        | some q10 =>
          (if q10.1 = (0 : Int32) then
            (match f_X7_add_1 m_read v1 v2 v3 (0 : Int32) with
            | none => none
            | some q11 =>
              some ((1 : Int32), q10.2, m_number, q11.2))
          else
            (match f_X7_isDigit m_letters m_tape q10.2 m_number (0 : Int32) (3 : Int32) with
            | none => none
            | some q12 =>
              (if q12.1 = (0 : Int32) then
                some ((0 : Int32), q12.2.1, q12.2.2, m_read)
              else
                (match f_X7_add_1 m_read v1 v2 v3 q12.2.2 with
                | none => none
                | some q13 =>
                  some ((1 : Int32), q12.2.1, q12.2.2, q13.2))))))
      else
        (match f_X7_isDigit m_letters m_tape q9.2 m_number (v4 + (1 : Int32)) ((m_read 5) - (1 : Int32)) with
        | none => none
        | some q14 =>
          (if q14.1 = (0 : Int32) then
            some ((0 : Int32), q14.2.1, q14.2.2, m_read)
          else
            fl_X7_isClauseItem_78 n m_letters m_tape q14.2.1 q14.2.2 m_read v1 v2 (v3 ||| ((1 : Int32) <<< (q14.2.2 &&& (31 : Int32)))) q14.2.2))))
def f_X7_isClauseItem (m_letters : Int32) (m_tape : (Nat → Int32)) (m_position : Int32) (m_number : Int32) (m_read : (Nat → Int32)) : Option (Int32 × Int32 × Int32 × (Nat → Int32)) :=
  (match f_X7_peek m_letters m_tape m_position with
  | none => none
  | some q1 =>
    (if (0 : Int32) ≤ (f_X7_kindBy q1.1) then
      (match f_X7_isNumber m_letters m_tape (q1.2 + (1 : Int32)) m_number with
      | none => none
      | some q2 =>
        (if q2.1 = (0 : Int32) then
          some ((0 : Int32), q2.2.1, q2.2.2, m_read)
        else
          (match f_X7_isSign m_letters m_tape q2.2.1 (47 : Int32) with
          | none => none
          | some q3 =>
            (if q3.1 = (0 : Int32) then
              (match f_X7_isSign m_letters m_tape q3.2 (64 : Int32) with
              | none => none
              | some q4 =>
                (if q4.1 = (0 : Int32) then
                  (match f_X7_add_1 m_read (f_X7_kindBy q1.1) q2.2.2 (0 : Int32) (0 : Int32) with
                  | none => none
                  | some q5 =>
                    some ((1 : Int32), q4.2, q2.2.2, q5.2))
                else
                  (match f_X7_isDigit m_letters m_tape q4.2 q2.2.2 (0 : Int32) (3 : Int32) with
                  | none => none
                  | some q6 =>
                    (if q6.1 = (0 : Int32) then
                      some ((0 : Int32), q6.2.1, q6.2.2, m_read)
                    else
                      (match f_X7_add_1 m_read (f_X7_kindBy q1.1) q2.2.2 (0 : Int32) q6.2.2 with
                      | none => none
                      | some q7 =>
                        some ((1 : Int32), q6.2.1, q6.2.2, q7.2))))))
            else
              (match f_X7_isDigit m_letters m_tape q3.2 q2.2.2 (0 : Int32) ((m_read 5) - (1 : Int32)) with
              | none => none
              | some q8 =>
                (if q8.1 = (0 : Int32) then
                  some ((0 : Int32), q8.2.1, q8.2.2, m_read)
                else
                  fl_X7_isClauseItem_78 300 m_letters m_tape q8.2.1 q8.2.2 m_read (f_X7_kindBy q1.1) q2.2.2 ((1 : Int32) <<< (q8.2.2 &&& (31 : Int32))) q8.2.2))))))
    else
      some ((0 : Int32), q1.2, m_number, m_read)))
def fl_X7_isAgreement_2 : Nat → Int32 → (Nat → Int32) → Int32 → Int32 → (Nat → Int32) → Int32 → Option (Int32 × Int32 × Int32 × (Nat → Int32))
  | 0, _, _, _, _, _, _ => none
  | n + 1, m_letters, m_tape, m_position, m_number, m_read, v1 =>
    (if v1 = (0 : Int32) then
      (match f_X7_peek m_letters m_tape m_position with
      | none => none
      | some q1 =>
        (if q1.1 = (0 : Int32) then
          some ((1 : Int32), q1.2, m_number, m_read)
        else
          some ((0 : Int32), q1.2, m_number, m_read)))
    else
      (match f_X7_isClauseItem m_letters m_tape m_position m_number m_read with
      | none => none
      | some q2 =>
        (if q2.1 = (0 : Int32) then
          some ((0 : Int32), q2.2.1, q2.2.2.1, q2.2.2.2)
        else
          (if (8 : Int32) ≤ (q2.2.2.2 5) then
            fl_X7_isAgreement_2 n m_letters m_tape q2.2.1 q2.2.2.1 q2.2.2.2 (0 : Int32)
          else
            (match f_X7_isSign m_letters m_tape q2.2.1 (44 : Int32) with
            | none => none
            | some q3 =>
              (if q3.1 = (0 : Int32) then
                fl_X7_isAgreement_2 n m_letters m_tape q3.2 q2.2.2.1 q2.2.2.2 (0 : Int32)
              else
                fl_X7_isAgreement_2 n m_letters m_tape q3.2 q2.2.2.1 q2.2.2.2 (1 : Int32)))))))
def f_X7_isAgreement (m_letters : Int32) (m_tape : (Nat → Int32)) (m_position : Int32) (m_number : Int32) (m_read : (Nat → Int32)) : Option (Int32 × Int32 × Int32 × (Nat → Int32)) :=
  fl_X7_isAgreement_2 300 m_letters m_tape m_position m_number m_read (1 : Int32)
def fl_X7_bring_3 : Nat → (Nat → Int32) → (Nat → Int32) → Int32 → Int32 → Int32 → Int32 → Option ((Nat → Int32))
  | 0, _, _, _, _, _, _ => none
  | n + 1, m_now, m_read, v1, v3, v4, v5 =>
    (if v4 ≤ v5 then
      some (m_now)
    else
      (if (v1 + v5) < 0 ∨ 79 ≤ ((v1 + v5)).toNatClampNeg then none else
        (if (v3 + v5) < 0 ∨ 79 ≤ ((v3 + v5)).toNatClampNeg then none else
          fl_X7_bring_3 n (upd m_now ((v3 + v5)).toNatClampNeg (m_read ((v1 + v5)).toNatClampNeg)) m_read v1 v3 v4 (v5 + (1 : Int32)))))
def f_X7_bring (m_now : (Nat → Int32)) (m_read : (Nat → Int32)) (p1 : Int32) (p3 : Int32) (p4 : Int32) : Option ((Nat → Int32)) :=
  fl_X7_bring_3 300 m_now m_read p1 p3 p4 (0 : Int32)
def fl_X7_agreement_2 : Nat → Int32 → (Nat → Int32) → Int32 → Int32 → (Nat → Int32) → (Nat → Int32) → Int32 → Option (Int32 × Int32 × Int32 × Int32 × (Nat → Int32) × (Nat → Int32))
  | 0, _, _, _, _, _, _, _ => none
  | n + 1, m_letters, m_tape, m_position, m_number, m_now, m_read, v1 =>
    (if (79 : Int32) ≤ v1 then
      (match f_X7_isAgreement m_letters m_tape (0 : Int32) m_number (upd m_read 1 (m_now 1)) with
      | none => none
      | some q1 =>
        (if q1.1 = (0 : Int32) then
          some (((-20 : Int32) - q1.2.1), (0 : Int32), q1.2.1, q1.2.2.1, m_now, q1.2.2.2)
        else
          (match f_X7_bring m_now q1.2.2.2 (0 : Int32) (0 : Int32) (79 : Int32) with
          | none => none
          | some q2 =>
            some ((q2 5), (0 : Int32), q1.2.1, q1.2.2.1, q2, q1.2.2.2))))
    else
      (if v1 < 0 ∨ 79 ≤ (v1).toNatClampNeg then none else
        fl_X7_agreement_2 n m_letters m_tape m_position m_number m_now (upd m_read (v1).toNatClampNeg (0 : Int32)) (v1 + (1 : Int32))))
def f_X7_agreement (m_letters : Int32) (m_tape : (Nat → Int32)) (m_position : Int32) (m_number : Int32) (m_now : (Nat → Int32)) (m_read : (Nat → Int32)) : Option (Int32 × Int32 × Int32 × Int32 × (Nat → Int32) × (Nat → Int32)) :=
  fl_X7_agreement_2 300 m_letters m_tape m_position m_number m_now m_read (0 : Int32)
def fl_X4_boundParties_4 : Nat → (Nat → Int32) → Int32 → Int32 → Int32 → Int32 → Option (Int32)
  | 0, _, _, _, _, _ => none
  | n + 1, r_t_parties, r_t_size, r_tied, v1, v2 =>
    (if (4 : Int32) ≤ v2 then
      some (v1)
    else
      (match f_X0_owedBy r_t_parties r_t_size v2 with
      | none => none
      | some q1 =>
        (if (q1 &&& r_tied) = (0 : Int32) then
          fl_X4_boundParties_4 n r_t_parties r_t_size r_tied v1 (v2 + (1 : Int32))
        else
          fl_X4_boundParties_4 n r_t_parties r_t_size r_tied (v1 ||| ((1 : Int32) <<< (v2 &&& (31 : Int32)))) (v2 + (1 : Int32)))))
def f_X4_boundParties (r_t_parties : (Nat → Int32)) (r_t_size : Int32) (r_tied : Int32) : Option (Int32) :=
  fl_X4_boundParties_4 300 r_t_parties r_t_size r_tied (0 : Int32) (0 : Int32)
def f_X6_count (r_t_barred : (Nat → Int32)) (r_t_parties : (Nat → Int32)) (r_t_size : Int32) (r_p_size : Int32) (r_tied : Int32) (r_wars : Int32) (r_wet : Int32) (r_day : Int32) (p1 : Int32) : Option (Int32) :=
  (if p1 = (0 : Int32) then
    some (r_t_size)
  else
  (if p1 = (1 : Int32) then
    some (r_day)
  else
  (if p1 = (2 : Int32) then
    some (r_wet)
  else
  (if p1 = (3 : Int32) then
    some (r_tied)
  else
  (if p1 = (4 : Int32) then
    (match f_X4_freeAmong r_t_barred r_tied with
    | none => none
    | some q1 =>
      some (q1))
  else
  (if p1 = (5 : Int32) then
    (match f_X4_boundParties r_t_parties r_t_size r_tied with
    | none => none
    | some q2 =>
      some (q2))
  else
  (if p1 = (6 : Int32) then
    some (r_wars)
  else
  (if p1 = (7 : Int32) then
    some (r_p_size)
  else
    some ((-1 : Int32))))))))))
def fl_X7_freeIn_4 : Nat → (Nat → Int32) → Int32 → Int32 → Option (Int32)
  | 0, _, _, _ => none
  | n + 1, m_now, v1, v2 =>
    (if (m_now 5) ≤ v2 then
      some (v1)
    else
      (match f_X7_isFree m_now v2 (m_now 2) with
      | none => none
      | some q1 =>
        (if q1 = (0 : Int32) then
          fl_X7_freeIn_4 n m_now (v1 ||| (0 : Int32)) (v2 + (1 : Int32))
        else
          fl_X7_freeIn_4 n m_now (v1 ||| ((1 : Int32) <<< (v2 &&& (31 : Int32)))) (v2 + (1 : Int32)))))
def f_X7_freeIn (m_now : (Nat → Int32)) : Option (Int32) :=
  fl_X7_freeIn_4 300 m_now (0 : Int32) (0 : Int32)
def fl_X7_boundOnes_4 : Nat → (Nat → Int32) → Int32 → Int32 → Option (Int32)
  | 0, _, _, _ => none
  | n + 1, m_now, v1, v2 =>
    (if (m_now 5) ≤ v2 then
      some (v1)
    else
      (if (f_X7_has (m_now 2) v2) = (0 : Int32) then
        fl_X7_boundOnes_4 n m_now (v1 ||| (0 : Int32)) (v2 + (1 : Int32))
      else
        (if ((30 : Int32) + v2) < 0 ∨ 79 ≤ (((30 : Int32) + v2)).toNatClampNeg then none else
          fl_X7_boundOnes_4 n m_now (v1 ||| ((1 : Int32) <<< ((m_now (((30 : Int32) + v2)).toNatClampNeg) &&& (31 : Int32)))) (v2 + (1 : Int32)))))
def f_X7_boundOnes (m_now : (Nat → Int32)) : Option (Int32) :=
  fl_X7_boundOnes_4 300 m_now (0 : Int32) (0 : Int32)
def f_X7_count (m_now : (Nat → Int32)) (p1 : Int32) : Option (Int32) :=
  (if p1 = (0 : Int32) then
    some ((m_now 5))
  else
  (if p1 = (1 : Int32) then
    some ((m_now 0))
  else
  (if p1 = (2 : Int32) then
    some ((m_now 3))
  else
  (if p1 = (3 : Int32) then
    some ((m_now 2))
  else
  (if p1 = (4 : Int32) then
    (match f_X7_freeIn m_now with
    | none => none
    | some q1 =>
      some (q1))
  else
  (if p1 = (5 : Int32) then
    (match f_X7_boundOnes m_now with
    | none => none
    | some q2 =>
      some (q2))
  else
  (if p1 = (6 : Int32) then
    some ((m_now 4))
  else
  (if p1 = (7 : Int32) then
    some ((m_now 38))
  else
    some ((-1 : Int32))))))))))
def f_X6_isForce (p0 : Int32) : Int32 :=
  (f_X6_isWithin p0 (0 : Int32) (99 : Int32))
def f_X2_makeRoom (r_p_numbers : (Nat → Int32)) (r_p_size : Int32) : Option (Int32 × (Nat → Int32) × Int32) :=
  (if r_p_size < (8 : Int32) then
    some ((((r_p_size + (1 : Int32)) - (1 : Int32)) * (5 : Int32)), r_p_numbers, (r_p_size + (1 : Int32)))
  else
    some ((35 : Int32), (va_cpy r_p_numbers r_p_numbers 5 0 35), (8 : Int32)))
def f_X4_remember (r_p_numbers : (Nat → Int32)) (r_p_size : Int32) (r_tied : Int32) (r_wars : Int32) (r_wet : Int32) (r_day : Int32) (r_drawn : Int32) : Option ((Nat → Int32) × Int32) :=
  (match f_X2_makeRoom r_p_numbers r_p_size with
  | none => none
  | some q1 =>
    (if q1.1 < (0 : Int32) then
      some (q1.2.1, q1.2.2)
    else
      (if (q1.1 + (5 : Int32)) ≤ (40 : Int32) then
        (if q1.1 < 0 ∨ 40 ≤ (q1.1).toNatClampNeg then none else
          (if (q1.1 + (1 : Int32)) < 0 ∨ 40 ≤ ((q1.1 + (1 : Int32))).toNatClampNeg then none else
            (if (q1.1 + (2 : Int32)) < 0 ∨ 40 ≤ ((q1.1 + (2 : Int32))).toNatClampNeg then none else
              (if (q1.1 + (3 : Int32)) < 0 ∨ 40 ≤ ((q1.1 + (3 : Int32))).toNatClampNeg then none else
                (if (q1.1 + (4 : Int32)) < 0 ∨ 40 ≤ ((q1.1 + (4 : Int32))).toNatClampNeg then none else
                  some ((upd (upd (upd (upd (upd q1.2.1 (q1.1).toNatClampNeg r_tied) ((q1.1 + (1 : Int32))).toNatClampNeg r_wars) ((q1.1 + (2 : Int32))).toNatClampNeg r_wet) ((q1.1 + (3 : Int32))).toNatClampNeg r_day) ((q1.1 + (4 : Int32))).toNatClampNeg r_drawn), q1.2.2))))))
      else
        some (q1.2.1, q1.2.2))))
def fl_X4_weigh_2 : Nat → (Nat → Int32) → (Nat → Int32) → (Nat → Int32) → Int32 → Int32 → Int32 → Option ((Nat → Int32))
  | 0, _, _, _, _, _, _ => none
  | n + 1, r_t_kinds, r_t_holds, r_firms, r_wet, r_day, v1 =>
    (if (8 : Int32) ≤ v1 then
      some (r_firms)
    else
      (match f_X4_firmOf r_t_kinds r_t_holds r_wet r_day v1 with
      | none => none
      | some q1 =>
        (if v1 < 0 ∨ 8 ≤ (v1).toNatClampNeg then none else
          fl_X4_weigh_2 n r_t_kinds r_t_holds (upd r_firms (v1).toNatClampNeg q1) r_wet r_day (v1 + (1 : Int32)))))
def f_X4_weigh (r_t_kinds : (Nat → Int32)) (r_t_holds : (Nat → Int32)) (r_firms : (Nat → Int32)) (r_wet : Int32) (r_day : Int32) : Option ((Nat → Int32)) :=
  fl_X4_weigh_2 300 r_t_kinds r_t_holds r_firms r_wet r_day (0 : Int32)
def fl_X4_fallsAmong_12 : Nat → (Nat → Int32) → (Nat → Int32) → Int32 → Int32 → Int32 → Int32 → Option (Int32)
  | 0, _, _, _, _, _, _ => none
  | n + 1, r_t_barred, r_firms, v2, v3, v4, v5 =>
    (if (8 : Int32) ≤ v5 then
      some (v4)
    else
      (if (f_X6_has v3 v5) = (0 : Int32) then
        fl_X4_fallsAmong_12 n r_t_barred r_firms v2 v3 v4 (v5 + (1 : Int32))
      else
        (if v5 < 0 ∨ 8 ≤ (v5).toNatClampNeg then none else
          (if v2 < (r_firms (v5).toNatClampNeg) then
            fl_X4_fallsAmong_12 n r_t_barred r_firms v2 v3 v4 (v5 + (1 : Int32))
          else
            fl_X4_fallsAmong_12 n r_t_barred r_firms v2 v3 (v4 ||| ((1 : Int32) <<< (v5 &&& (31 : Int32)))) (v5 + (1 : Int32))))))
def f_X4_fallsAmong (r_t_barred : (Nat → Int32)) (r_firms : (Nat → Int32)) (p1 : Int32) (p2 : Int32) : Option (Int32) :=
  (match f_X4_freeAmong r_t_barred p1 with
  | none => none
  | some q1 =>
    fl_X4_fallsAmong_12 300 r_t_barred r_firms p2 q1 (0 : Int32) (0 : Int32))
def f_X4_undoBy (r_t_kinds : (Nat → Int32)) (r_t_holds : (Nat → Int32)) (r_t_barred : (Nat → Int32)) (r_firms : (Nat → Int32)) (r_tied : Int32) (r_wet : Int32) (r_day : Int32) (p1 : Int32) : Option (Int32 × (Nat → Int32) × Int32) :=
  (match f_X4_weigh r_t_kinds r_t_holds r_firms r_wet r_day with
  | none => none
  | some q1 =>
    (match f_X4_fallsAmong r_t_barred q1 r_tied p1 with
    | none => none
    | some q2 =>
      some (q2, q1, (r_tied &&& (q2 ^^^ (-1 : Int32))))))
def f_X6_pull (r_t_kinds : (Nat → Int32)) (r_t_holds : (Nat → Int32)) (r_t_barred : (Nat → Int32)) (r_p_numbers : (Nat → Int32)) (r_p_size : Int32) (r_firms : (Nat → Int32)) (r_tied : Int32) (r_wars : Int32) (r_wet : Int32) (r_day : Int32) (r_drawn : Int32) (p1 : Int32) : Option (Int32 × (Nat → Int32) × Int32 × (Nat → Int32) × Int32) :=
  (if (f_X6_isForce p1) = (0 : Int32) then
    some ((-1 : Int32), r_p_numbers, r_p_size, r_firms, r_tied)
  else
    (match f_X4_remember r_p_numbers r_p_size r_tied r_wars r_wet r_day r_drawn with
    | none => none
    | some q1 =>
      (match f_X4_undoBy r_t_kinds r_t_holds r_t_barred r_firms r_tied r_wet r_day p1 with
      | none => none
      | some q2 =>
        some (q2.1, q1.1, q1.2, q2.2.1, q2.2.2))))
def fl_X7_bring_1_3 : Nat → (Nat → Int32) → Int32 → Int32 → Int32 → Int32 → Option ((Nat → Int32))
  | 0, _, _, _, _, _ => none
  | n + 1, m_now, v1, v3, v4, v5 =>
    (if v4 ≤ v5 then
      some (m_now)
    else
      (if (v1 + v5) < 0 ∨ 79 ≤ ((v1 + v5)).toNatClampNeg then none else
        (if (v3 + v5) < 0 ∨ 79 ≤ ((v3 + v5)).toNatClampNeg then none else
          fl_X7_bring_1_3 n (upd m_now ((v3 + v5)).toNatClampNeg (m_now ((v1 + v5)).toNatClampNeg)) v1 v3 v4 (v5 + (1 : Int32)))))
def f_X7_bring_1 (m_now : (Nat → Int32)) (p1 : Int32) (p3 : Int32) (p4 : Int32) : Option ((Nat → Int32)) :=
  fl_X7_bring_1_3 300 m_now p1 p3 p4 (0 : Int32)
def f_X7_note (m_now : (Nat → Int32)) : Option ((Nat → Int32)) :=
  (if (m_now 38) = (8 : Int32) then
    (match f_X7_bring_1 m_now (44 : Int32) (39 : Int32) (35 : Int32) with
    | none => none
    | some q1 =>
      (match f_X7_bring_1 (upd q1 38 ((q1 38) - (1 : Int32))) (0 : Int32) ((39 : Int32) + ((5 : Int32) * ((upd q1 38 ((q1 38) - (1 : Int32))) 38))) (5 : Int32) with
      | none => none
      | some q2 =>
        some ((upd q2 38 ((q2 38) + (1 : Int32))))))
  else
    (match f_X7_bring_1 m_now (0 : Int32) ((39 : Int32) + ((5 : Int32) * (m_now 38))) (5 : Int32) with
    | none => none
    | some q3 =>
      some ((upd q3 38 ((q3 38) + (1 : Int32))))))
def fl_X7_fallsIn_4 : Nat → (Nat → Int32) → Int32 → Int32 → Int32 → Option (Int32)
  | 0, _, _, _, _ => none
  | n + 1, m_now, v1, v2, v3 =>
    (if (m_now 5) ≤ v3 then
      some (v2)
    else
      (match f_X7_isFree m_now v3 (m_now 2) with
      | none => none
      | some q1 =>
        (if q1 = (0 : Int32) then
          fl_X7_fallsIn_4 n m_now v1 (v2 ||| (0 : Int32)) (v3 + (1 : Int32))
        else
          (match f_X7_firm m_now v3 with
          | none => none
          | some q2 =>
            (if v1 < q2 then
              fl_X7_fallsIn_4 n m_now v1 (v2 ||| (0 : Int32)) (v3 + (1 : Int32))
            else
              fl_X7_fallsIn_4 n m_now v1 (v2 ||| ((1 : Int32) <<< (v3 &&& (31 : Int32)))) (v3 + (1 : Int32)))))))
def f_X7_fallsIn (m_now : (Nat → Int32)) (p1 : Int32) : Option (Int32) :=
  fl_X7_fallsIn_4 300 m_now p1 (0 : Int32) (0 : Int32)
def f_X7_pullIn (m_now : (Nat → Int32)) (p1 : Int32) : Option (Int32 × (Nat → Int32)) :=
  (match f_X7_fallsIn m_now p1 with
  | none => none
  | some q1 =>
    some (q1, (upd m_now 2 ((m_now 2) &&& (q1 ^^^ (-1 : Int32))))))
def f_X7_pull (m_now : (Nat → Int32)) (p1 : Int32) : Option (Int32 × (Nat → Int32)) :=
  (if (f_X7_in p1 (0 : Int32) (99 : Int32)) = (0 : Int32) then
    some ((-1 : Int32), m_now)
  else
    (match f_X7_note m_now with
    | none => none
    | some q1 =>
      (match f_X7_pullIn q1 p1 with
      | none => none
      | some q2 =>
        some (q2.1, q2.2))))
def f_X6_cut (r_t_size : Int32) (r_p_numbers : (Nat → Int32)) (r_p_size : Int32) (r_tied : Int32) (r_wars : Int32) (r_wet : Int32) (r_day : Int32) (r_drawn : Int32) (p1 : Int32) : Option (Int32 × (Nat → Int32) × Int32 × Int32 × Int32) :=
  (if (f_X6_isClause r_t_size p1) = (0 : Int32) then
    some ((-1 : Int32), r_p_numbers, r_p_size, r_tied, r_wars)
  else
    (if (f_X6_has r_tied p1) = (0 : Int32) then
      some ((-2 : Int32), r_p_numbers, r_p_size, r_tied, r_wars)
    else
      (match f_X4_remember r_p_numbers r_p_size r_tied r_wars r_wet r_day r_drawn with
      | none => none
      | some q1 =>
        some ((r_tied &&& (((1 : Int32) <<< (p1 &&& (31 : Int32))) ^^^ (-1 : Int32))), q1.1, q1.2, (r_tied &&& (((1 : Int32) <<< (p1 &&& (31 : Int32))) ^^^ (-1 : Int32))), (r_wars + (1 : Int32))))))
def f_X7_cut (m_now : (Nat → Int32)) (p1 : Int32) : Option (Int32 × (Nat → Int32)) :=
  (if (f_X7_isClause m_now p1) = (0 : Int32) then
    some ((-1 : Int32), m_now)
  else
    (if (f_X7_has (m_now 2) p1) = (0 : Int32) then
      some ((-2 : Int32), m_now)
    else
      (match f_X7_note m_now with
      | none => none
      | some q1 =>
        some (((upd (upd q1 2 ((q1 2) &&& (((1 : Int32) <<< (p1 &&& (31 : Int32))) ^^^ (-1 : Int32)))) 4 (((upd q1 2 ((q1 2) &&& (((1 : Int32) <<< (p1 &&& (31 : Int32))) ^^^ (-1 : Int32)))) 4) + (1 : Int32))) 2), (upd (upd q1 2 ((q1 2) &&& (((1 : Int32) <<< (p1 &&& (31 : Int32))) ^^^ (-1 : Int32)))) 4 (((upd q1 2 ((q1 2) &&& (((1 : Int32) <<< (p1 &&& (31 : Int32))) ^^^ (-1 : Int32)))) 4) + (1 : Int32)))))))
def f_X6_tie (r_t_size : Int32) (r_p_numbers : (Nat → Int32)) (r_p_size : Int32) (r_tied : Int32) (r_wars : Int32) (r_wet : Int32) (r_day : Int32) (r_drawn : Int32) (p1 : Int32) : Option (Int32 × (Nat → Int32) × Int32 × Int32) :=
  (if (f_X6_isClause r_t_size p1) = (0 : Int32) then
    some ((-1 : Int32), r_p_numbers, r_p_size, r_tied)
  else
    (if (f_X6_has r_tied p1) = (0 : Int32) then
      (match f_X4_remember r_p_numbers r_p_size r_tied r_wars r_wet r_day r_drawn with
      | none => none
      | some q1 =>
        some ((r_tied ||| ((1 : Int32) <<< (p1 &&& (31 : Int32)))), q1.1, q1.2, (r_tied ||| ((1 : Int32) <<< (p1 &&& (31 : Int32))))))
    else
      some ((-2 : Int32), r_p_numbers, r_p_size, r_tied)))
def f_X7_tie (m_now : (Nat → Int32)) (p1 : Int32) : Option (Int32 × (Nat → Int32)) :=
  (if (f_X7_isClause m_now p1) = (0 : Int32) then
    some ((-1 : Int32), m_now)
  else
    (if (f_X7_has (m_now 2) p1) = (0 : Int32) then
      (match f_X7_note m_now with
      | none => none
      | some q1 =>
        some (((upd q1 2 ((q1 2) ||| ((1 : Int32) <<< (p1 &&& (31 : Int32))))) 2), (upd q1 2 ((q1 2) ||| ((1 : Int32) <<< (p1 &&& (31 : Int32)))))))
    else
      some ((-2 : Int32), m_now)))
def fl_X4_firmTogether_4 : Nat → (Nat → Int32) → (Nat → Int32) → Int32 → Int32 → Int32 → Int32 → Int32 → Option (Int32)
  | 0, _, _, _, _, _, _, _ => none
  | n + 1, r_t_kinds, r_t_holds, r_tied, r_wet, r_day, v1, v2 =>
    (if (8 : Int32) ≤ v2 then
      some (v1)
    else
      (if (f_X6_has r_tied v2) = (0 : Int32) then
        fl_X4_firmTogether_4 n r_t_kinds r_t_holds r_tied r_wet r_day v1 (v2 + (1 : Int32))
      else
        (match f_X4_firmOf r_t_kinds r_t_holds r_wet r_day v2 with
        | none => none
        | some q1 =>
          fl_X4_firmTogether_4 n r_t_kinds r_t_holds r_tied r_wet r_day (v1 + q1) (v2 + (1 : Int32)))))
def f_X4_firmTogether (r_t_kinds : (Nat → Int32)) (r_t_holds : (Nat → Int32)) (r_tied : Int32) (r_wet : Int32) (r_day : Int32) : Option (Int32) :=
  fl_X4_firmTogether_4 300 r_t_kinds r_t_holds r_tied r_wet r_day (0 : Int32) (0 : Int32)
def f_X6_wet (r_t_kinds : (Nat → Int32)) (r_t_holds : (Nat → Int32)) (r_p_numbers : (Nat → Int32)) (r_p_size : Int32) (r_tied : Int32) (r_wars : Int32) (r_wet : Int32) (r_day : Int32) (r_drawn : Int32) (p1 : Int32) : Option (Int32 × (Nat → Int32) × Int32 × Int32) :=
  (if (f_X6_isWithin p1 (0 : Int32) (1 : Int32)) = (0 : Int32) then
    some ((-1 : Int32), r_p_numbers, r_p_size, r_wet)
  else
    (if r_wet = p1 then
      some ((-2 : Int32), r_p_numbers, r_p_size, r_wet)
    else
      (match f_X4_remember r_p_numbers r_p_size r_tied r_wars r_wet r_day r_drawn with
      | none => none
      | some q1 =>
        (match f_X4_firmTogether r_t_kinds r_t_holds r_tied p1 r_day with
        | none => none
        | some q2 =>
          some (q2, q1.1, q1.2, p1)))))
def fl_X7_wet_39 : Nat → (Nat → Int32) → Int32 → Int32 → Option (Int32 × (Nat → Int32))
  | 0, _, _, _ => none
  | n + 1, m_now, v2, v3 =>
    (if (m_now 5) ≤ v3 then
      some (v2, m_now)
    else
      (if (f_X7_has (m_now 2) v3) = (0 : Int32) then
        fl_X7_wet_39 n m_now (v2 + (0 : Int32)) (v3 + (1 : Int32))
      else
        (match f_X7_firm m_now v3 with
        | none => none
        | some q2 =>
          fl_X7_wet_39 n m_now (v2 + q2) (v3 + (1 : Int32)))))
def f_X7_wet (m_now : (Nat → Int32)) (p1 : Int32) : Option (Int32 × (Nat → Int32)) :=
  (if (f_X7_in p1 (0 : Int32) (1 : Int32)) = (0 : Int32) then
    some ((-1 : Int32), m_now)
  else
    (if (m_now 3) = p1 then
      some ((-2 : Int32), m_now)
    else
      (match f_X7_note m_now with
      | none => none
      | some q1 =>
        fl_X7_wet_39 300 (upd q1 3 p1) (0 : Int32) (0 : Int32))))
def f_X6_days (r_p_numbers : (Nat → Int32)) (r_p_size : Int32) (r_tied : Int32) (r_wars : Int32) (r_wet : Int32) (r_day : Int32) (r_drawn : Int32) (p1 : Int32) : Option (Int32 × (Nat → Int32) × Int32 × Int32) :=
  (if (f_X6_isWithin p1 (1 : Int32) (99 : Int32)) = (0 : Int32) then
    some ((-1 : Int32), r_p_numbers, r_p_size, r_day)
  else
    (if (r_day + p1) ≤ ((Int16.ofInt 9999).toInt32) then
      (match f_X4_remember r_p_numbers r_p_size r_tied r_wars r_wet r_day r_drawn with
      | none => none
      | some q1 =>
        some ((r_day + p1), q1.1, q1.2, (r_day + p1)))
    else
      some ((-3 : Int32), r_p_numbers, r_p_size, r_day)))
def f_X7_days (m_now : (Nat → Int32)) (p1 : Int32) : Option (Int32 × (Nat → Int32)) :=
  (if (f_X7_in p1 (1 : Int32) (99 : Int32)) = (0 : Int32) then
    some ((-1 : Int32), m_now)
  else
    (if ((m_now 0) + p1) ≤ ((Int16.ofInt 9999).toInt32) then
      (match f_X7_note m_now with
      | none => none
      | some q1 =>
        some (((upd q1 0 ((q1 0) + p1)) 0), (upd q1 0 ((q1 0) + p1))))
    else
      some ((-3 : Int32), m_now)))
def f_X4_driftOneDay (r_t_kinds : (Nat → Int32)) (r_t_holds : (Nat → Int32)) (r_t_barred : (Nat → Int32)) (r_firms : (Nat → Int32)) (r_tied : Int32) (r_wet : Int32) (r_day : Int32) (r_drawn : Int32) : Option ((Nat → Int32) × Int32 × Int32 × Int32 × Int32) :=
  (if (kn_se ((kn_se ((kn_se (((r_drawn * (Int32.ofNat 1103515245)) + ((Int16.ofInt 12345).toInt32)) &&& (Int32.ofNat 2147483647))) / (Int32.ofNat 65536))) - (kn_se ((kn_se (((r_drawn * (Int32.ofNat 1103515245)) + ((Int16.ofInt 12345).toInt32)) &&& (Int32.ofNat 2147483647))) / (Int32.ofNat 65536))) / (3 : Int32) * (3 : Int32))) = (0 : Int32) then
    (match f_X4_undoBy r_t_kinds r_t_holds r_t_barred r_firms r_tied (1 : Int32) r_day (kn_se ((kn_se ((kn_se (((r_drawn * (Int32.ofNat 1103515245)) + ((Int16.ofInt 12345).toInt32)) &&& (Int32.ofNat 2147483647))) / ((Int16.ofInt 128).toInt32))) - (kn_se ((kn_se (((r_drawn * (Int32.ofNat 1103515245)) + ((Int16.ofInt 12345).toInt32)) &&& (Int32.ofNat 2147483647))) / ((Int16.ofInt 128).toInt32))) / (30 : Int32) * (30 : Int32))) with
    | none => none
    | some q1 =>
      some (q1.2.1, q1.2.2, (1 : Int32), (r_day + (1 : Int32)), (kn_se (((r_drawn * (Int32.ofNat 1103515245)) + ((Int16.ofInt 12345).toInt32)) &&& (Int32.ofNat 2147483647)))))
  else
    (match f_X4_undoBy r_t_kinds r_t_holds r_t_barred r_firms r_tied (0 : Int32) r_day (kn_se ((kn_se ((kn_se (((r_drawn * (Int32.ofNat 1103515245)) + ((Int16.ofInt 12345).toInt32)) &&& (Int32.ofNat 2147483647))) / ((Int16.ofInt 128).toInt32))) - (kn_se ((kn_se (((r_drawn * (Int32.ofNat 1103515245)) + ((Int16.ofInt 12345).toInt32)) &&& (Int32.ofNat 2147483647))) / ((Int16.ofInt 128).toInt32))) / (30 : Int32) * (30 : Int32))) with
    | none => none
    | some q2 =>
      some (q2.2.1, q2.2.2, (0 : Int32), (r_day + (1 : Int32)), (kn_se (((r_drawn * (Int32.ofNat 1103515245)) + ((Int16.ofInt 12345).toInt32)) &&& (Int32.ofNat 2147483647))))))
def fl_X6_drift_32 : Nat → (Nat → Int32) → (Nat → Int32) → (Nat → Int32) → (Nat → Int32) → Int32 → (Nat → Int32) → Int32 → Int32 → Int32 → Int32 → Int32 → Int32 → Int32 → Option (Int32 × (Nat → Int32) × Int32 × (Nat → Int32) × Int32 × Int32 × Int32 × Int32)
  | 0, _, _, _, _, _, _, _, _, _, _, _, _, _ => none
  | n + 1, r_t_kinds, r_t_holds, r_t_barred, r_p_numbers, r_p_size, r_firms, r_tied, r_wars, r_wet, r_day, r_drawn, v1, v2 =>
    (if v1 ≤ v2 then
      some (r_tied, r_p_numbers, r_p_size, r_firms, r_tied, r_wet, r_day, r_drawn)
    else
      (match f_X4_remember r_p_numbers r_p_size r_tied r_wars r_wet r_day r_drawn with
      | none => none
      | some q1 =>
        (match f_X4_driftOneDay r_t_kinds r_t_holds r_t_barred r_firms r_tied r_wet r_day r_drawn with
        | none => none
        | some q2 =>
          fl_X6_drift_32 n r_t_kinds r_t_holds r_t_barred q1.1 q1.2 q2.1 q2.2.1 r_wars q2.2.2.1 q2.2.2.2.1 q2.2.2.2.2 v1 (v2 + (1 : Int32)))))
def f_X6_drift (r_t_kinds : (Nat → Int32)) (r_t_holds : (Nat → Int32)) (r_t_barred : (Nat → Int32)) (r_p_numbers : (Nat → Int32)) (r_p_size : Int32) (r_firms : (Nat → Int32)) (r_tied : Int32) (r_wars : Int32) (r_wet : Int32) (r_day : Int32) (r_drawn : Int32) (p1 : Int32) : Option (Int32 × (Nat → Int32) × Int32 × (Nat → Int32) × Int32 × Int32 × Int32 × Int32) :=
  (if (f_X6_isWithin p1 (1 : Int32) (40 : Int32)) = (0 : Int32) then
    some ((-1 : Int32), r_p_numbers, r_p_size, r_firms, r_tied, r_wet, r_day, r_drawn)
  else
    (if (r_day + p1) ≤ ((Int16.ofInt 9999).toInt32) then
      fl_X6_drift_32 300 r_t_kinds r_t_holds r_t_barred r_p_numbers r_p_size r_firms r_tied r_wars r_wet r_day r_drawn p1 (0 : Int32)
    else
      some ((-3 : Int32), r_p_numbers, r_p_size, r_firms, r_tied, r_wet, r_day, r_drawn)))
def fl_X7_drift_31 : Nat → (Nat → Int32) → Int32 → Int32 → Option (Int32 × (Nat → Int32))
  | 0, _, _, _ => none
  | n + 1, m_now, v1, v2 =>
    (if v1 ≤ v2 then
      some ((m_now 2), m_now)
    else
      (match f_X7_note m_now with
      | none => none
      | some q1 =>
        (if (kn_se ((kn_se (((upd q1 1 (kn_se ((((((q1 1)).toInt64 * (Int64.ofNat 1103515245)) + (Int64.ofNat 12345)) - ((((q1 1)).toInt64 * (Int64.ofNat 1103515245)) + (Int64.ofNat 12345)) / (Int64.ofNat 2147483648) * (Int64.ofNat 2147483648))).toInt32)) 1) / (Int32.ofNat 65536))) - (kn_se (((upd q1 1 (kn_se ((((((q1 1)).toInt64 * (Int64.ofNat 1103515245)) + (Int64.ofNat 12345)) - ((((q1 1)).toInt64 * (Int64.ofNat 1103515245)) + (Int64.ofNat 12345)) / (Int64.ofNat 2147483648) * (Int64.ofNat 2147483648))).toInt32)) 1) / (Int32.ofNat 65536))) / (3 : Int32) * (3 : Int32))) = (0 : Int32) then
          (match f_X7_pullIn (upd (upd q1 1 (kn_se ((((((q1 1)).toInt64 * (Int64.ofNat 1103515245)) + (Int64.ofNat 12345)) - ((((q1 1)).toInt64 * (Int64.ofNat 1103515245)) + (Int64.ofNat 12345)) / (Int64.ofNat 2147483648) * (Int64.ofNat 2147483648))).toInt32)) 3 (1 : Int32)) (kn_se ((kn_se (((upd (upd q1 1 (kn_se ((((((q1 1)).toInt64 * (Int64.ofNat 1103515245)) + (Int64.ofNat 12345)) - ((((q1 1)).toInt64 * (Int64.ofNat 1103515245)) + (Int64.ofNat 12345)) / (Int64.ofNat 2147483648) * (Int64.ofNat 2147483648))).toInt32)) 3 (1 : Int32)) 1) / ((Int16.ofInt 128).toInt32))) - (kn_se (((upd (upd q1 1 (kn_se ((((((q1 1)).toInt64 * (Int64.ofNat 1103515245)) + (Int64.ofNat 12345)) - ((((q1 1)).toInt64 * (Int64.ofNat 1103515245)) + (Int64.ofNat 12345)) / (Int64.ofNat 2147483648) * (Int64.ofNat 2147483648))).toInt32)) 3 (1 : Int32)) 1) / ((Int16.ofInt 128).toInt32))) / (30 : Int32) * (30 : Int32))) with
          | none => none
          | some q2 =>
            fl_X7_drift_31 n (upd q2.2 0 ((q2.2 0) + (1 : Int32))) v1 (v2 + (1 : Int32)))
        else
          (match f_X7_pullIn (upd (upd q1 1 (kn_se ((((((q1 1)).toInt64 * (Int64.ofNat 1103515245)) + (Int64.ofNat 12345)) - ((((q1 1)).toInt64 * (Int64.ofNat 1103515245)) + (Int64.ofNat 12345)) / (Int64.ofNat 2147483648) * (Int64.ofNat 2147483648))).toInt32)) 3 (0 : Int32)) (kn_se ((kn_se (((upd (upd q1 1 (kn_se ((((((q1 1)).toInt64 * (Int64.ofNat 1103515245)) + (Int64.ofNat 12345)) - ((((q1 1)).toInt64 * (Int64.ofNat 1103515245)) + (Int64.ofNat 12345)) / (Int64.ofNat 2147483648) * (Int64.ofNat 2147483648))).toInt32)) 3 (0 : Int32)) 1) / ((Int16.ofInt 128).toInt32))) - (kn_se (((upd (upd q1 1 (kn_se ((((((q1 1)).toInt64 * (Int64.ofNat 1103515245)) + (Int64.ofNat 12345)) - ((((q1 1)).toInt64 * (Int64.ofNat 1103515245)) + (Int64.ofNat 12345)) / (Int64.ofNat 2147483648) * (Int64.ofNat 2147483648))).toInt32)) 3 (0 : Int32)) 1) / ((Int16.ofInt 128).toInt32))) / (30 : Int32) * (30 : Int32))) with
          | none => none
          | some q3 =>
            fl_X7_drift_31 n (upd q3.2 0 ((q3.2 0) + (1 : Int32))) v1 (v2 + (1 : Int32))))))
def f_X7_drift (m_now : (Nat → Int32)) (p1 : Int32) : Option (Int32 × (Nat → Int32)) :=
  (if (f_X7_in p1 (1 : Int32) (40 : Int32)) = (0 : Int32) then
    some ((-1 : Int32), m_now)
  else
    (if ((m_now 0) + p1) ≤ ((Int16.ofInt 9999).toInt32) then
      fl_X7_drift_31 300 m_now p1 (0 : Int32)
    else
      some ((-3 : Int32), m_now)))
def f_X4_takeBack (r_p_numbers : (Nat → Int32)) (r_p_size : Int32) (r_tied : Int32) (r_wars : Int32) (r_wet : Int32) (r_day : Int32) (r_drawn : Int32) : Option (Int32 × Int32 × Int32 × Int32 × Int32 × Int32 × Int32) :=
  (if r_p_size ≤ (0 : Int32) then
    some ((0 : Int32), r_p_size, r_tied, r_wars, r_wet, r_day, r_drawn)
  else
    (if r_p_size ≤ (8 : Int32) then
      (if ((r_p_size - (1 : Int32)) * (5 : Int32)) < 0 ∨ 40 ≤ (((r_p_size - (1 : Int32)) * (5 : Int32))).toNatClampNeg then none else
        (if (((r_p_size - (1 : Int32)) * (5 : Int32)) + (1 : Int32)) < 0 ∨ 40 ≤ ((((r_p_size - (1 : Int32)) * (5 : Int32)) + (1 : Int32))).toNatClampNeg then none else
          (if (((r_p_size - (1 : Int32)) * (5 : Int32)) + (2 : Int32)) < 0 ∨ 40 ≤ ((((r_p_size - (1 : Int32)) * (5 : Int32)) + (2 : Int32))).toNatClampNeg then none else
            (if (((r_p_size - (1 : Int32)) * (5 : Int32)) + (3 : Int32)) < 0 ∨ 40 ≤ ((((r_p_size - (1 : Int32)) * (5 : Int32)) + (3 : Int32))).toNatClampNeg then none else
              (if (((r_p_size - (1 : Int32)) * (5 : Int32)) + (4 : Int32)) < 0 ∨ 40 ≤ ((((r_p_size - (1 : Int32)) * (5 : Int32)) + (4 : Int32))).toNatClampNeg then none else
                some ((1 : Int32), (r_p_size - (1 : Int32)), (r_p_numbers (((r_p_size - (1 : Int32)) * (5 : Int32))).toNatClampNeg), (r_p_numbers ((((r_p_size - (1 : Int32)) * (5 : Int32)) + (1 : Int32))).toNatClampNeg), (r_p_numbers ((((r_p_size - (1 : Int32)) * (5 : Int32)) + (2 : Int32))).toNatClampNeg), (r_p_numbers ((((r_p_size - (1 : Int32)) * (5 : Int32)) + (3 : Int32))).toNatClampNeg), (r_p_numbers ((((r_p_size - (1 : Int32)) * (5 : Int32)) + (4 : Int32))).toNatClampNeg)))))))
    else
      some ((0 : Int32), r_p_size, r_tied, r_wars, r_wet, r_day, r_drawn)))
def f_X6_undo (r_p_numbers : (Nat → Int32)) (r_p_size : Int32) (r_tied : Int32) (r_wars : Int32) (r_wet : Int32) (r_day : Int32) (r_drawn : Int32) : Option (Int32 × Int32 × Int32 × Int32 × Int32 × Int32 × Int32) :=
  (match f_X4_takeBack r_p_numbers r_p_size r_tied r_wars r_wet r_day r_drawn with
  | none => none
  | some q1 =>
    (if q1.1 = (0 : Int32) then
      some ((-4 : Int32), q1.2.1, q1.2.2.1, q1.2.2.2.1, q1.2.2.2.2.1, q1.2.2.2.2.2.1, q1.2.2.2.2.2.2)
    else
      some (q1.2.1, q1.2.1, q1.2.2.1, q1.2.2.2.1, q1.2.2.2.2.1, q1.2.2.2.2.2.1, q1.2.2.2.2.2.2)))
def f_X7_undo (m_now : (Nat → Int32)) : Option (Int32 × (Nat → Int32)) :=
  (if (m_now 38) = (0 : Int32) then
    some ((-4 : Int32), m_now)
  else
    (match f_X7_bring_1 (upd m_now 38 ((m_now 38) - (1 : Int32))) ((39 : Int32) + ((5 : Int32) * ((upd m_now 38 ((m_now 38) - (1 : Int32))) 38))) (0 : Int32) (5 : Int32) with
    | none => none
    | some q1 =>
      some ((q1 38), q1)))
def f_X6_seed (r_drawn : Int32) (p1 : Int32) : Option (Int32 × Int32) :=
  (if (0 : Int32) ≤ p1 then
    some (r_drawn, p1)
  else
    some ((-1 : Int32), r_drawn))
def f_X7_seed (m_now : (Nat → Int32)) (p1 : Int32) : Option (Int32 × (Nat → Int32)) :=
  (if (0 : Int32) ≤ p1 then
    some ((m_now 1), (upd m_now 1 p1))
  else
    some ((-1 : Int32), m_now))
def f_X6_falls (r_t_kinds : (Nat → Int32)) (r_t_holds : (Nat → Int32)) (r_t_barred : (Nat → Int32)) (r_firms : (Nat → Int32)) (r_tied : Int32) (r_wet : Int32) (r_day : Int32) (p1 : Int32) : Option (Int32 × (Nat → Int32)) :=
  (if (f_X6_isForce p1) = (0 : Int32) then
    some ((-1 : Int32), r_firms)
  else
    (match f_X4_weigh r_t_kinds r_t_holds r_firms r_wet r_day with
    | none => none
    | some q1 =>
      (match f_X4_fallsAmong r_t_barred q1 r_tied p1 with
      | none => none
      | some q2 =>
        some (q2, q1))))
def f_X7_falls (m_now : (Nat → Int32)) (p1 : Int32) : Option (Int32) :=
  (if (f_X7_in p1 (0 : Int32) (99 : Int32)) = (0 : Int32) then
    some ((-1 : Int32))
  else
    (match f_X7_fallsIn m_now p1 with
    | none => none
    | some q1 =>
      some (q1)))
def fl_X4_neededFor_10 : Nat → (Nat → Int32) → Int32 → Int32 → Int32 → Option (Int32)
  | 0, _, _, _, _ => none
  | n + 1, r_t_barred, r_tied, v2, v3 =>
    (if v3 < (0 : Int32) then
      some (v2)
    else
      (if (f_X6_has v2 v3) = (0 : Int32) then
        fl_X4_neededFor_10 n r_t_barred r_tied v2 (v3 + (-1 : Int32))
      else
        (if v3 < 0 ∨ 8 ≤ (v3).toNatClampNeg then none else
          fl_X4_neededFor_10 n r_t_barred r_tied (v2 ||| ((r_t_barred (v3).toNatClampNeg) &&& r_tied)) (v3 + (-1 : Int32)))))
def f_X4_neededFor (r_t_barred : (Nat → Int32)) (r_tied : Int32) (p1 : Int32) : Option (Int32) :=
  fl_X4_neededFor_10 300 r_t_barred r_tied (p1 &&& r_tied) (7 : Int32)
def fl_X4_firmestUpTo_13 : Nat → (Nat → Int32) → (Nat → Int32) → (Nat → Int32) → Int32 → Int32 → Int32 → Int32 → Int32 → Int32 → Option (Int32)
  | 0, _, _, _, _, _, _, _, _, _ => none
  | n + 1, r_t_kinds, r_t_holds, r_t_barred, r_tied, r_wet, r_day, v2, v3, v4 =>
    (if (8 : Int32) ≤ v4 then
      some (v3)
    else
      (if (f_X6_has v2 v4) = (0 : Int32) then
        fl_X4_firmestUpTo_13 n r_t_kinds r_t_holds r_t_barred r_tied r_wet r_day v2 v3 (v4 + (1 : Int32))
      else
        (match f_X4_firmOf r_t_kinds r_t_holds r_wet r_day v4 with
        | none => none
        | some q2 =>
          fl_X4_firmestUpTo_13 n r_t_kinds r_t_holds r_t_barred r_tied r_wet r_day v2 (if v3 < q2 then q2 else v3) (v4 + (1 : Int32)))))
def f_X4_firmestUpTo (r_t_kinds : (Nat → Int32)) (r_t_holds : (Nat → Int32)) (r_t_barred : (Nat → Int32)) (r_tied : Int32) (r_wet : Int32) (r_day : Int32) (p1 : Int32) : Option (Int32) :=
  (match f_X4_neededFor r_t_barred r_tied ((1 : Int32) <<< (p1 &&& (31 : Int32))) with
  | none => none
  | some q1 =>
    fl_X4_firmestUpTo_13 300 r_t_kinds r_t_holds r_t_barred r_tied r_wet r_day q1 (0 : Int32) (0 : Int32))
def fl_X1_deepestAmong_4 : Nat → (Nat → Int32) → Int32 → Int32 → Int32 → Option (Int32)
  | 0, _, _, _, _ => none
  | n + 1, f_depths, v1, v2, v3 =>
    (if (8 : Int32) ≤ v3 then
      some (v2)
    else
      (if (f_X6_has v1 v3) = (0 : Int32) then
        fl_X1_deepestAmong_4 n f_depths v1 v2 (v3 + (1 : Int32))
      else
        (if v3 < 0 ∨ 8 ≤ (v3).toNatClampNeg then none else
          fl_X1_deepestAmong_4 n f_depths v1 (if v2 < (f_depths (v3).toNatClampNeg) then (f_depths (v3).toNatClampNeg) else v2) (v3 + (1 : Int32)))))
def f_X1_deepestAmong (f_depths : (Nat → Int32)) (p1 : Int32) : Option (Int32) :=
  fl_X1_deepestAmong_4 300 f_depths p1 (0 : Int32) (0 : Int32)
def fl_X1_fillDepths_2 : Nat → (Nat → Int32) → Int32 → (Nat → Int32) → Int32 → Option ((Nat → Int32))
  | 0, _, _, _, _ => none
  | n + 1, r_t_barred, r_tied, f_depths, v2 =>
    (if (8 : Int32) ≤ v2 then
      some (f_depths)
    else
      (if (f_X6_has r_tied v2) = (0 : Int32) then
        (if v2 < 0 ∨ 8 ≤ (v2).toNatClampNeg then none else
          fl_X1_fillDepths_2 n r_t_barred r_tied (upd f_depths (v2).toNatClampNeg (0 : Int32)) (v2 + (1 : Int32)))
      else
        (if v2 < 0 ∨ 8 ≤ (v2).toNatClampNeg then none else
          (match f_X1_deepestAmong f_depths ((r_t_barred (v2).toNatClampNeg) &&& r_tied) with
          | none => none
          | some q1 =>
            (if v2 < 0 ∨ 8 ≤ (v2).toNatClampNeg then none else
              fl_X1_fillDepths_2 n r_t_barred r_tied (upd f_depths (v2).toNatClampNeg ((1 : Int32) + q1)) (v2 + (1 : Int32)))))))
def f_X1_fillDepths (r_t_barred : (Nat → Int32)) (r_tied : Int32) (f_depths : (Nat → Int32)) : Option ((Nat → Int32)) :=
  fl_X1_fillDepths_2 300 r_t_barred r_tied f_depths (0 : Int32)
def f_X1_depthOf (r_t_barred : (Nat → Int32)) (r_tied : Int32) (f_depths : (Nat → Int32)) (p2 : Int32) : Option (Int32 × (Nat → Int32)) :=
  (match f_X1_fillDepths r_t_barred r_tied f_depths with
  | none => none
  | some q1 =>
    (if p2 < 0 ∨ 8 ≤ (p2).toNatClampNeg then none else
      some ((q1 (p2).toNatClampNeg), q1)))
def f_X6_pulls (r_t_kinds : (Nat → Int32)) (r_t_holds : (Nat → Int32)) (r_t_barred : (Nat → Int32)) (r_t_size : Int32) (r_tied : Int32) (r_wet : Int32) (r_day : Int32) (f_depths : (Nat → Int32)) (p1 : Int32) (p2 : Int32) : Option (Int32 × (Nat → Int32)) :=
  (if (f_X6_isClause r_t_size p1) = (0 : Int32) then
    some ((-1 : Int32), f_depths)
  else
    (if (f_X6_isForce p2) = (0 : Int32) then
      some ((-1 : Int32), f_depths)
    else
      (if (f_X6_has r_tied p1) = (0 : Int32) then
        some ((0 : Int32), f_depths)
      else
        (match f_X4_firmestUpTo r_t_kinds r_t_holds r_t_barred r_tied r_wet r_day p1 with
        | none => none
        | some q1 =>
          (if p2 < q1 then
            some ((-4 : Int32), f_depths)
          else
            (match f_X1_depthOf r_t_barred r_tied f_depths p1 with
            | none => none
            | some q2 =>
              some (q2.1, q2.2)))))))
def fl_X7_bring_2_3 : Nat → (Nat → Int32) → (Nat → Int32) → Int32 → Int32 → Int32 → Int32 → Option ((Nat → Int32))
  | 0, _, _, _, _, _, _ => none
  | n + 1, m_now, m_tried, v1, v3, v4, v5 =>
    (if v4 ≤ v5 then
      some (m_tried)
    else
      (if (v1 + v5) < 0 ∨ 79 ≤ ((v1 + v5)).toNatClampNeg then none else
        (if (v3 + v5) < 0 ∨ 79 ≤ ((v3 + v5)).toNatClampNeg then none else
          fl_X7_bring_2_3 n m_now (upd m_tried ((v3 + v5)).toNatClampNeg (m_now ((v1 + v5)).toNatClampNeg)) v1 v3 v4 (v5 + (1 : Int32)))))
def f_X7_bring_2 (m_now : (Nat → Int32)) (m_tried : (Nat → Int32)) (p1 : Int32) (p3 : Int32) (p4 : Int32) : Option ((Nat → Int32)) :=
  fl_X7_bring_2_3 300 m_now m_tried p1 p3 p4 (0 : Int32)
def f_X7_begin (m_now : (Nat → Int32)) (m_tried : (Nat → Int32)) : Option ((Nat → Int32)) :=
  (match f_X7_bring_2 m_now m_tried (0 : Int32) (0 : Int32) (79 : Int32) with
  | none => none
  | some q1 =>
    some (q1))
def f_X7_isFree_1 (m_tried : (Nat → Int32)) (p1 : Int32) (p2 : Int32) : Option (Int32) :=
  (if (f_X7_has p2 p1) = (0 : Int32) then
    some ((0 : Int32))
  else
    (if ((22 : Int32) + p1) < 0 ∨ 79 ≤ (((22 : Int32) + p1)).toNatClampNeg then none else
      (if ((m_tried (((22 : Int32) + p1)).toNatClampNeg) &&& p2) = (0 : Int32) then
        some ((1 : Int32))
      else
        some ((0 : Int32)))))
def f_X7_firmBy_1 (m_tried : (Nat → Int32)) (p1 : Int32) (p2 : Int32) : Int32 :=
  (if (m_tried 3) = (1 : Int32) then
    (if p1 = (0 : Int32) then
      ((2 : Int32) * p2)
    else
    (if p1 = (1 : Int32) then
      (((2 : Int32) * p2) + (10 : Int32))
    else
    (if p1 = (2 : Int32) then
      (((2 : Int32) * p2) / (2 : Int32))
    else
    (if p1 = (3 : Int32) then
      ((((2 : Int32) * p2) + (10 : Int32)) + ((m_tried 0) / (10 : Int32)))
    else
      (if ((m_tried 0) - (m_tried 0) / (7 : Int32) * (7 : Int32)) = (0 : Int32) then
        (0 : Int32)
      else
        (((2 : Int32) * p2) / (2 : Int32)))))))
  else
    (if p1 = (0 : Int32) then
      p2
    else
    (if p1 = (1 : Int32) then
      (p2 + (10 : Int32))
    else
    (if p1 = (2 : Int32) then
      (p2 / (2 : Int32))
    else
    (if p1 = (3 : Int32) then
      ((p2 + (10 : Int32)) + ((m_tried 0) / (10 : Int32)))
    else
      (if ((m_tried 0) - (m_tried 0) / (7 : Int32) * (7 : Int32)) = (0 : Int32) then
        (0 : Int32)
      else
        (p2 / (2 : Int32))))))))
def f_X7_firm_1 (m_tried : (Nat → Int32)) (p1 : Int32) : Option (Int32) :=
  (if ((6 : Int32) + p1) < 0 ∨ 79 ≤ (((6 : Int32) + p1)).toNatClampNeg then none else
    (if ((14 : Int32) + p1) < 0 ∨ 79 ≤ (((14 : Int32) + p1)).toNatClampNeg then none else
      some ((f_X7_firmBy_1 m_tried (m_tried (((6 : Int32) + p1)).toNatClampNeg) (m_tried (((14 : Int32) + p1)).toNatClampNeg)))))
def fl_X7_fallsIn_1_4 : Nat → (Nat → Int32) → Int32 → Int32 → Int32 → Option (Int32)
  | 0, _, _, _, _ => none
  | n + 1, m_tried, v1, v2, v3 =>
    (if (m_tried 5) ≤ v3 then
      some (v2)
    else
      (match f_X7_isFree_1 m_tried v3 (m_tried 2) with
      | none => none
      | some q1 =>
        (if q1 = (0 : Int32) then
          fl_X7_fallsIn_1_4 n m_tried v1 (v2 ||| (0 : Int32)) (v3 + (1 : Int32))
        else
          (match f_X7_firm_1 m_tried v3 with
          | none => none
          | some q2 =>
            (if v1 < q2 then
              fl_X7_fallsIn_1_4 n m_tried v1 (v2 ||| (0 : Int32)) (v3 + (1 : Int32))
            else
              fl_X7_fallsIn_1_4 n m_tried v1 (v2 ||| ((1 : Int32) <<< (v3 &&& (31 : Int32)))) (v3 + (1 : Int32)))))))
def f_X7_fallsIn_1 (m_tried : (Nat → Int32)) (p1 : Int32) : Option (Int32) :=
  fl_X7_fallsIn_1_4 300 m_tried p1 (0 : Int32) (0 : Int32)
def f_X7_pullIn_1 (m_tried : (Nat → Int32)) (p1 : Int32) : Option (Int32 × (Nat → Int32)) :=
  (match f_X7_fallsIn_1 m_tried p1 with
  | none => none
  | some q1 =>
    some (q1, (upd m_tried 2 ((m_tried 2) &&& (q1 ^^^ (-1 : Int32))))))
def fl_X7_pulls_26 : Nat → (Nat → Int32) → (Nat → Int32) → Int32 → Int32 → Int32 → Option (Int32 × (Nat → Int32))
  | 0, _, _, _, _, _ => none
  | n + 1, m_now, m_tried, v1, v2, v3 =>
    (if (20 : Int32) < v3 then
      some ((-4 : Int32), m_tried)
    else
      (if (f_X7_has (m_tried 2) v1) = (0 : Int32) then
        some (v3, m_tried)
      else
        (match f_X7_pullIn_1 m_tried v2 with
        | none => none
        | some q2 =>
          fl_X7_pulls_26 n m_now q2.2 v1 v2 (v3 + (1 : Int32)))))
def f_X7_pulls (m_now : (Nat → Int32)) (m_tried : (Nat → Int32)) (p1 : Int32) (p2 : Int32) : Option (Int32 × (Nat → Int32)) :=
  (if (f_X7_isClause m_now p1) = (0 : Int32) then
    some ((-1 : Int32), m_tried)
  else
    (if (f_X7_in p2 (0 : Int32) (99 : Int32)) = (0 : Int32) then
      some ((-1 : Int32), m_tried)
    else
      (match f_X7_begin m_now m_tried with
      | none => none
      | some q1 =>
        fl_X7_pulls_26 300 m_now q1 p1 p2 (0 : Int32))))
def f_X6_force (r_t_kinds : (Nat → Int32)) (r_t_holds : (Nat → Int32)) (r_t_barred : (Nat → Int32)) (r_t_size : Int32) (r_tied : Int32) (r_wet : Int32) (r_day : Int32) (f_depths : (Nat → Int32)) (p1 : Int32) (p2 : Int32) : Option (Int32 × (Nat → Int32)) :=
  (if (f_X6_isClause r_t_size p1) = (0 : Int32) then
    some ((-1 : Int32), f_depths)
  else
    (if (f_X6_isWithin p2 (1 : Int32) (8 : Int32)) = (0 : Int32) then
      some ((-1 : Int32), f_depths)
    else
      (if (f_X6_has r_tied p1) = (0 : Int32) then
        some ((0 : Int32), f_depths)
      else
        (match f_X4_firmestUpTo r_t_kinds r_t_holds r_t_barred r_tied r_wet r_day p1 with
        | none => none
        | some q1 =>
          (if (99 : Int32) < q1 then
            some ((-4 : Int32), f_depths)
          else
            (match f_X1_depthOf r_t_barred r_tied f_depths p1 with
            | none => none
            | some q2 =>
              (if p2 < q2.1 then
                some ((-4 : Int32), q2.2)
              else
                some (q1, q2.2))))))))
def fl_X7_force_35 (ko_22 : (Nat → Int32) → (Nat → Int32) → Int32 → Int32 → Int32 → Option (Int32 × (Nat → Int32))) : Nat → (Nat → Int32) → (Nat → Int32) → Int32 → Int32 → Int32 → Int32 → Option (Int32 × (Nat → Int32))
  | 0, _, _, _, _, _, _ => none
  | n + 1, m_now, m_tried, v1, v2, v3, v4 =>
    (if v2 ≤ v4 then
      (if (f_X7_has (m_tried 2) v1) = (0 : Int32) then
        some (v3, m_tried)
      else
        ko_22 m_now m_tried v1 v2 (v3 + (1 : Int32)))
    else
      (match f_X7_pullIn_1 m_tried v3 with
      | none => none
      | some q2 =>
        fl_X7_force_35 ko_22 n m_now q2.2 v1 v2 v3 (v4 + (1 : Int32))))
def fl_X7_force_22 : Nat → (Nat → Int32) → (Nat → Int32) → Int32 → Int32 → Int32 → Option (Int32 × (Nat → Int32))
  | 0, _, _, _, _, _ => none
  | n + 1, m_now, m_tried, v1, v2, v3 =>
    (if (99 : Int32) < v3 then
      some ((-4 : Int32), m_tried)
    else
      (match f_X7_begin m_now m_tried with
      | none => none
      | some q1 =>
        fl_X7_force_35 (fl_X7_force_22 n) 300 m_now q1 v1 v2 v3 (0 : Int32)))
def f_X7_force (m_now : (Nat → Int32)) (m_tried : (Nat → Int32)) (p1 : Int32) (p2 : Int32) : Option (Int32 × (Nat → Int32)) :=
  (if (f_X7_isClause m_now p1) = (0 : Int32) then
    some ((-1 : Int32), m_tried)
  else
    (if (f_X7_in p2 (1 : Int32) (8 : Int32)) = (0 : Int32) then
      some ((-1 : Int32), m_tried)
    else
      fl_X7_force_22 300 m_now m_tried p1 p2 (0 : Int32)))
def f_X6_needs (r_t_barred : (Nat → Int32)) (r_t_size : Int32) (r_tied : Int32) (p1 : Int32) : Option (Int32) :=
  (if (f_X6_isClause r_t_size p1) = (0 : Int32) then
    some ((-1 : Int32))
  else
    (match f_X4_neededFor r_t_barred r_tied ((1 : Int32) <<< (p1 &&& (31 : Int32))) with
    | none => none
    | some q1 =>
      some ((q1 &&& (((1 : Int32) <<< (p1 &&& (31 : Int32))) ^^^ (-1 : Int32))))))
def fl_X7_needsOf_18 : Nat → (Nat → Int32) → Int32 → Int32 → Option (Int32)
  | 0, _, _, _ => none
  | n + 1, m_now, v2, v3 =>
    (if v3 < (0 : Int32) then
      some (v2)
    else
      (if (f_X7_has v2 v3) = (0 : Int32) then
        fl_X7_needsOf_18 n m_now (v2 ||| (0 : Int32)) (v3 + (-1 : Int32))
      else
        (if ((22 : Int32) + v3) < 0 ∨ 79 ≤ (((22 : Int32) + v3)).toNatClampNeg then none else
          fl_X7_needsOf_18 n m_now (v2 ||| ((m_now (((22 : Int32) + v3)).toNatClampNeg) &&& (m_now 2))) (v3 + (-1 : Int32)))))
def f_X7_needsOf (m_now : (Nat → Int32)) (p1 : Int32) : Option (Int32) :=
  fl_X7_needsOf_18 300 m_now (p1 &&& (m_now 2)) ((m_now 5) - (1 : Int32))
def f_X7_needs (m_now : (Nat → Int32)) (p1 : Int32) : Option (Int32) :=
  (if (f_X7_isClause m_now p1) = (0 : Int32) then
    some ((-1 : Int32))
  else
    (match f_X7_needsOf m_now ((1 : Int32) <<< (p1 &&& (31 : Int32))) with
    | none => none
    | some q1 =>
      some ((q1 &&& (((1 : Int32) <<< (p1 &&& (31 : Int32))) ^^^ (-1 : Int32))))))
def fl_X1_deepest_9 : Nat → (Nat → Int32) → Int32 → (Nat → Int32) → Int32 → Int32 → Option (Int32 × (Nat → Int32))
  | 0, _, _, _, _, _ => none
  | n + 1, r_t_barred, r_tied, f_depths, v2, v3 =>
    (if (8 : Int32) ≤ v3 then
      some (v2, f_depths)
    else
      (if v3 < 0 ∨ 8 ≤ (v3).toNatClampNeg then none else
        fl_X1_deepest_9 n r_t_barred r_tied f_depths (if v2 < (f_depths (v3).toNatClampNeg) then (f_depths (v3).toNatClampNeg) else v2) (v3 + (1 : Int32))))
def f_X1_deepest (r_t_barred : (Nat → Int32)) (r_tied : Int32) (f_depths : (Nat → Int32)) : Option (Int32 × (Nat → Int32)) :=
  (match f_X1_fillDepths r_t_barred r_tied f_depths with
  | none => none
  | some q1 =>
    fl_X1_deepest_9 300 r_t_barred r_tied q1 (0 : Int32) (0 : Int32))
def f_X6_deep (r_t_barred : (Nat → Int32)) (r_tied : Int32) (f_depths : (Nat → Int32)) : Option (Int32 × (Nat → Int32)) :=
  (match f_X1_deepest r_t_barred r_tied f_depths with
  | none => none
  | some q1 =>
    some (q1.1, q1.2))
def fl_X7_deep_39 (ko_9 : (Nat → Int32) → (Nat → Int32) → Int32 → Int32 → Option (Int32 × (Nat → Int32))) : Nat → (Nat → Int32) → (Nat → Int32) → Int32 → Int32 → Int32 → Option (Int32 × (Nat → Int32))
  | 0, _, _, _, _, _ => none
  | n + 1, m_now, m_tried, v2, v3, v4 =>
    (if v3 ≤ v4 then
      (if v3 < 0 ∨ 79 ≤ (v3).toNatClampNeg then none else
        (if v3 < 0 ∨ 79 ≤ (v3).toNatClampNeg then none else
          (if v3 < 0 ∨ 79 ≤ (v3).toNatClampNeg then none else
            (if ((upd m_tried (v3).toNatClampNeg ((m_tried (v3).toNatClampNeg) + (1 : Int32))) (v3).toNatClampNeg) ≤ v2 then
              ko_9 m_now (upd m_tried (v3).toNatClampNeg ((m_tried (v3).toNatClampNeg) + (1 : Int32))) v2 (v3 + (1 : Int32))
            else
              (if v3 < 0 ∨ 79 ≤ (v3).toNatClampNeg then none else
                ko_9 m_now (upd m_tried (v3).toNatClampNeg ((m_tried (v3).toNatClampNeg) + (1 : Int32))) ((upd m_tried (v3).toNatClampNeg ((m_tried (v3).toNatClampNeg) + (1 : Int32))) (v3).toNatClampNeg) (v3 + (1 : Int32)))))))
    else
      (if ((22 : Int32) + v3) < 0 ∨ 79 ≤ (((22 : Int32) + v3)).toNatClampNeg then none else
        (if (f_X7_has (m_now (((22 : Int32) + v3)).toNatClampNeg) v4) = (0 : Int32) then
          (if v3 < 0 ∨ 79 ≤ (v3).toNatClampNeg then none else
            (if v3 < 0 ∨ 79 ≤ (v3).toNatClampNeg then none else
              fl_X7_deep_39 ko_9 n m_now (upd m_tried (v3).toNatClampNeg (m_tried (v3).toNatClampNeg)) v2 v3 (v4 + (1 : Int32))))
        else
          (if v4 < 0 ∨ 79 ≤ (v4).toNatClampNeg then none else
            (if v3 < 0 ∨ 79 ≤ (v3).toNatClampNeg then none else
              (if (m_tried (v4).toNatClampNeg) ≤ (m_tried (v3).toNatClampNeg) then
                (if v3 < 0 ∨ 79 ≤ (v3).toNatClampNeg then none else
                  (if v3 < 0 ∨ 79 ≤ (v3).toNatClampNeg then none else
                    fl_X7_deep_39 ko_9 n m_now (upd m_tried (v3).toNatClampNeg (m_tried (v3).toNatClampNeg)) v2 v3 (v4 + (1 : Int32))))
              else
                (if v4 < 0 ∨ 79 ≤ (v4).toNatClampNeg then none else
                  (if v3 < 0 ∨ 79 ≤ (v3).toNatClampNeg then none else
                    fl_X7_deep_39 ko_9 n m_now (upd m_tried (v3).toNatClampNeg (m_tried (v4).toNatClampNeg)) v2 v3 (v4 + (1 : Int32))))))))))
def fl_X7_deep_9 : Nat → (Nat → Int32) → (Nat → Int32) → Int32 → Int32 → Option (Int32 × (Nat → Int32))
  | 0, _, _, _, _ => none
  | n + 1, m_now, m_tried, v2, v3 =>
    (if (m_now 5) ≤ v3 then
      some (v2, m_tried)
    else
      (if v3 < 0 ∨ 79 ≤ (v3).toNatClampNeg then none else
        (if (f_X7_has (m_now 2) v3) = (0 : Int32) then
          (if v3 < 0 ∨ 79 ≤ (v3).toNatClampNeg then none else
            (if ((upd m_tried (v3).toNatClampNeg (0 : Int32)) (v3).toNatClampNeg) ≤ v2 then
              fl_X7_deep_9 n m_now (upd m_tried (v3).toNatClampNeg (0 : Int32)) v2 (v3 + (1 : Int32))
            else
              (if v3 < 0 ∨ 79 ≤ (v3).toNatClampNeg then none else
                fl_X7_deep_9 n m_now (upd m_tried (v3).toNatClampNeg (0 : Int32)) ((upd m_tried (v3).toNatClampNeg (0 : Int32)) (v3).toNatClampNeg) (v3 + (1 : Int32)))))
        else
          fl_X7_deep_39 (fl_X7_deep_9 n) 300 m_now (upd m_tried (v3).toNatClampNeg (0 : Int32)) v2 v3 (0 : Int32))))
def f_X7_deep (m_now : (Nat → Int32)) (m_tried : (Nat → Int32)) : Option (Int32 × (Nat → Int32)) :=
  fl_X7_deep_9 300 m_now m_tried (0 : Int32) (0 : Int32)
def f_J6_bitCount (p0 : Int32) : Int32 :=
  ((((((((p0 - ((((p0).toUInt32 >>> (((1 : Int32)).toUInt32 &&& Int32.toUInt32 31)).toInt32) &&& (Int32.ofNat 1431655765))) &&& (Int32.ofNat 858993459)) + (((((p0 - ((((p0).toUInt32 >>> (((1 : Int32)).toUInt32 &&& Int32.toUInt32 31)).toInt32) &&& (Int32.ofNat 1431655765)))).toUInt32 >>> (((2 : Int32)).toUInt32 &&& Int32.toUInt32 31)).toInt32) &&& (Int32.ofNat 858993459))) + ((((((p0 - ((((p0).toUInt32 >>> (((1 : Int32)).toUInt32 &&& Int32.toUInt32 31)).toInt32) &&& (Int32.ofNat 1431655765))) &&& (Int32.ofNat 858993459)) + (((((p0 - ((((p0).toUInt32 >>> (((1 : Int32)).toUInt32 &&& Int32.toUInt32 31)).toInt32) &&& (Int32.ofNat 1431655765)))).toUInt32 >>> (((2 : Int32)).toUInt32 &&& Int32.toUInt32 31)).toInt32) &&& (Int32.ofNat 858993459)))).toUInt32 >>> (((4 : Int32)).toUInt32 &&& Int32.toUInt32 31)).toInt32)) &&& (Int32.ofNat 252645135)) + ((((((((p0 - ((((p0).toUInt32 >>> (((1 : Int32)).toUInt32 &&& Int32.toUInt32 31)).toInt32) &&& (Int32.ofNat 1431655765))) &&& (Int32.ofNat 858993459)) + (((((p0 - ((((p0).toUInt32 >>> (((1 : Int32)).toUInt32 &&& Int32.toUInt32 31)).toInt32) &&& (Int32.ofNat 1431655765)))).toUInt32 >>> (((2 : Int32)).toUInt32 &&& Int32.toUInt32 31)).toInt32) &&& (Int32.ofNat 858993459))) + ((((((p0 - ((((p0).toUInt32 >>> (((1 : Int32)).toUInt32 &&& Int32.toUInt32 31)).toInt32) &&& (Int32.ofNat 1431655765))) &&& (Int32.ofNat 858993459)) + (((((p0 - ((((p0).toUInt32 >>> (((1 : Int32)).toUInt32 &&& Int32.toUInt32 31)).toInt32) &&& (Int32.ofNat 1431655765)))).toUInt32 >>> (((2 : Int32)).toUInt32 &&& Int32.toUInt32 31)).toInt32) &&& (Int32.ofNat 858993459)))).toUInt32 >>> (((4 : Int32)).toUInt32 &&& Int32.toUInt32 31)).toInt32)) &&& (Int32.ofNat 252645135))).toUInt32 >>> (((8 : Int32)).toUInt32 &&& Int32.toUInt32 31)).toInt32)) + (((((((((p0 - ((((p0).toUInt32 >>> (((1 : Int32)).toUInt32 &&& Int32.toUInt32 31)).toInt32) &&& (Int32.ofNat 1431655765))) &&& (Int32.ofNat 858993459)) + (((((p0 - ((((p0).toUInt32 >>> (((1 : Int32)).toUInt32 &&& Int32.toUInt32 31)).toInt32) &&& (Int32.ofNat 1431655765)))).toUInt32 >>> (((2 : Int32)).toUInt32 &&& Int32.toUInt32 31)).toInt32) &&& (Int32.ofNat 858993459))) + ((((((p0 - ((((p0).toUInt32 >>> (((1 : Int32)).toUInt32 &&& Int32.toUInt32 31)).toInt32) &&& (Int32.ofNat 1431655765))) &&& (Int32.ofNat 858993459)) + (((((p0 - ((((p0).toUInt32 >>> (((1 : Int32)).toUInt32 &&& Int32.toUInt32 31)).toInt32) &&& (Int32.ofNat 1431655765)))).toUInt32 >>> (((2 : Int32)).toUInt32 &&& Int32.toUInt32 31)).toInt32) &&& (Int32.ofNat 858993459)))).toUInt32 >>> (((4 : Int32)).toUInt32 &&& Int32.toUInt32 31)).toInt32)) &&& (Int32.ofNat 252645135)) + ((((((((p0 - ((((p0).toUInt32 >>> (((1 : Int32)).toUInt32 &&& Int32.toUInt32 31)).toInt32) &&& (Int32.ofNat 1431655765))) &&& (Int32.ofNat 858993459)) + (((((p0 - ((((p0).toUInt32 >>> (((1 : Int32)).toUInt32 &&& Int32.toUInt32 31)).toInt32) &&& (Int32.ofNat 1431655765)))).toUInt32 >>> (((2 : Int32)).toUInt32 &&& Int32.toUInt32 31)).toInt32) &&& (Int32.ofNat 858993459))) + ((((((p0 - ((((p0).toUInt32 >>> (((1 : Int32)).toUInt32 &&& Int32.toUInt32 31)).toInt32) &&& (Int32.ofNat 1431655765))) &&& (Int32.ofNat 858993459)) + (((((p0 - ((((p0).toUInt32 >>> (((1 : Int32)).toUInt32 &&& Int32.toUInt32 31)).toInt32) &&& (Int32.ofNat 1431655765)))).toUInt32 >>> (((2 : Int32)).toUInt32 &&& Int32.toUInt32 31)).toInt32) &&& (Int32.ofNat 858993459)))).toUInt32 >>> (((4 : Int32)).toUInt32 &&& Int32.toUInt32 31)).toInt32)) &&& (Int32.ofNat 252645135))).toUInt32 >>> (((8 : Int32)).toUInt32 &&& Int32.toUInt32 31)).toInt32))).toUInt32 >>> (((16 : Int32)).toUInt32 &&& Int32.toUInt32 31)).toInt32)) &&& (63 : Int32))
def f_X6_frees (r_t_barred : (Nat → Int32)) (r_t_parties : (Nat → Int32)) (r_t_size : Int32) (r_tied : Int32) (p1 : Int32) (p2 : Int32) : Option (Int32) :=
  (if (f_X6_isParty p1) = (0 : Int32) then
    some ((-1 : Int32))
  else
    (if (f_X6_isWithin p2 (0 : Int32) (1 : Int32)) = (0 : Int32) then
      some ((-1 : Int32))
    else
      (match f_X0_owedBy r_t_parties r_t_size p1 with
      | none => none
      | some q1 =>
        (match f_X4_neededFor r_t_barred r_tied q1 with
        | none => none
        | some q2 =>
          (if p2 = (0 : Int32) then
            some ((f_J6_bitCount q2))
          else
            some (q2))))))
def fl_X7_bits_4 : Nat → Int32 → Int32 → Int32 → Option (Int32)
  | 0, _, _, _ => none
  | n + 1, v0, v1, v2 =>
    (if (8 : Int32) ≤ v2 then
      some (v1)
    else
      fl_X7_bits_4 n v0 (v1 + ((v0 >>> (v2 &&& (31 : Int32))) &&& (1 : Int32))) (v2 + (1 : Int32)))
def f_X7_bits (p0 : Int32) : Option (Int32) :=
  fl_X7_bits_4 300 p0 (0 : Int32) (0 : Int32)
def f_X7_frees (m_now : (Nat → Int32)) (p1 : Int32) (p2 : Int32) : Option (Int32) :=
  (if (f_X7_in p1 (0 : Int32) (3 : Int32)) = (0 : Int32) then
    some ((-1 : Int32))
  else
    (if (f_X7_in p2 (0 : Int32) (1 : Int32)) = (0 : Int32) then
      some ((-1 : Int32))
    else
      (match f_X7_owedBy m_now p1 with
      | none => none
      | some q1 =>
        (match f_X7_needsOf m_now q1 with
        | none => none
        | some q2 =>
          (if p2 = (0 : Int32) then
            (match f_X7_bits q2 with
            | none => none
            | some q3 =>
              some (q3))
          else
            some (q2))))))
def fl_X1_fillBars_2 : Nat → (Nat → Int32) → Int32 → (Nat → Int32) → Int32 → Option ((Nat → Int32))
  | 0, _, _, _, _ => none
  | n + 1, r_t_barred, r_tied, f_bars, v2 =>
    (if (8 : Int32) ≤ v2 then
      some (f_bars)
    else
      (if v2 < 0 ∨ 8 ≤ (v2).toNatClampNeg then none else
        (if v2 < 0 ∨ 8 ≤ (v2).toNatClampNeg then none else
          fl_X1_fillBars_2 n r_t_barred r_tied (upd f_bars (v2).toNatClampNeg ((r_t_barred (v2).toNatClampNeg) &&& r_tied)) (v2 + (1 : Int32)))))
def f_X1_fillBars (r_t_barred : (Nat → Int32)) (r_tied : Int32) (f_bars : (Nat → Int32)) : Option ((Nat → Int32)) :=
  fl_X1_fillBars_2 300 r_t_barred r_tied f_bars (0 : Int32)
def fl_X1_waysTo_4 : Nat → (Nat → Int32) → (Nat → Int32) → Int32 → Int32 → Int32 → Option (Int32)
  | 0, _, _, _, _, _ => none
  | n + 1, f_bars, f_ways, v1, v2, v3 =>
    (if (8 : Int32) ≤ v3 then
      some (v2)
    else
      (if (f_X6_has v1 v3) = (0 : Int32) then
        fl_X1_waysTo_4 n f_bars f_ways v1 v2 (v3 + (1 : Int32))
      else
        (if v3 < 0 ∨ 8 ≤ (v3).toNatClampNeg then none else
          (if ((f_bars (v3).toNatClampNeg) &&& (v1 ^^^ (-1 : Int32))) = (0 : Int32) then
            (if (v1 &&& (((1 : Int32) <<< (v3 &&& (31 : Int32))) ^^^ (-1 : Int32))) < 0 ∨ 256 ≤ ((v1 &&& (((1 : Int32) <<< (v3 &&& (31 : Int32))) ^^^ (-1 : Int32)))).toNatClampNeg then none else
              fl_X1_waysTo_4 n f_bars f_ways v1 (v2 + (f_ways ((v1 &&& (((1 : Int32) <<< (v3 &&& (31 : Int32))) ^^^ (-1 : Int32)))).toNatClampNeg)) (v3 + (1 : Int32)))
          else
            fl_X1_waysTo_4 n f_bars f_ways v1 v2 (v3 + (1 : Int32))))))
def f_X1_waysTo (f_bars : (Nat → Int32)) (f_ways : (Nat → Int32)) (p1 : Int32) : Option (Int32) :=
  fl_X1_waysTo_4 300 f_bars f_ways p1 (0 : Int32) (0 : Int32)
def fl_X1_countWays_19 : Nat → (Nat → Int32) → (Nat → Int32) → Int32 → Int32 → Option (Int32 × (Nat → Int32))
  | 0, _, _, _, _ => none
  | n + 1, f_bars, f_ways, v2, v3 =>
    (if v2 < v3 then
      (if v2 < 0 ∨ 256 ≤ (v2).toNatClampNeg then none else
        some ((f_ways (v2).toNatClampNeg), f_ways))
    else
      (if (v3 &&& (v2 ^^^ (-1 : Int32))) = (0 : Int32) then
        (match f_X1_waysTo f_bars f_ways v3 with
        | none => none
        | some q1 =>
          (if v3 < 0 ∨ 256 ≤ (v3).toNatClampNeg then none else
            fl_X1_countWays_19 n f_bars (upd f_ways (v3).toNatClampNeg q1) v2 (v3 + (1 : Int32))))
      else
        fl_X1_countWays_19 n f_bars f_ways v2 (v3 + (1 : Int32))))
def f_X1_countWays (f_bars : (Nat → Int32)) (f_ways : (Nat → Int32)) (p1 : Int32) : Option (Int32 × (Nat → Int32)) :=
  fl_X1_countWays_19 300 f_bars (upd f_ways 0 (1 : Int32)) (p1 &&& (255 : Int32)) (1 : Int32)
def f_X1_countOrders (r_t_barred : (Nat → Int32)) (r_tied : Int32) (f_bars : (Nat → Int32)) (f_ways : (Nat → Int32)) : Option (Int32 × (Nat → Int32) × (Nat → Int32)) :=
  (match f_X1_fillBars r_t_barred r_tied f_bars with
  | none => none
  | some q1 =>
    (match f_X1_countWays q1 f_ways r_tied with
    | none => none
    | some q2 =>
      some (q2.1, q1, q2.2)))
def fl_X6_nthOf_4 : Nat → Int32 → Int32 → Int32 → Option (Int32)
  | 0, _, _, _ => none
  | n + 1, v0, v2, v3 =>
    (if (8 : Int32) ≤ v3 then
      some ((-4 : Int32))
    else
      (if (f_X6_has v0 v3) = (0 : Int32) then
        fl_X6_nthOf_4 n v0 v2 (v3 + (1 : Int32))
      else
        (if v2 = (0 : Int32) then
          some (v3)
        else
          fl_X6_nthOf_4 n v0 (v2 + (-1 : Int32)) (v3 + (1 : Int32)))))
def f_X6_nthOf (p0 : Int32) (p1 : Int32) : Option (Int32) :=
  fl_X6_nthOf_4 300 p0 p1 (0 : Int32)
def f_X6_orders (r_t_barred : (Nat → Int32)) (r_tied : Int32) (f_bars : (Nat → Int32)) (f_ways : (Nat → Int32)) (p1 : Int32) : Option (Int32 × (Nat → Int32) × (Nat → Int32)) :=
  (if (-1 : Int32) ≤ p1 then
    (if p1 = (-1 : Int32) then
      (match f_X1_countOrders r_t_barred r_tied f_bars f_ways with
      | none => none
      | some q1 =>
        some (q1.1, q1.2.1, q1.2.2))
    else
      (match f_X6_nthOf r_tied p1 with
      | none => none
      | some q2 =>
        some (q2, f_bars, f_ways)))
  else
    some ((-1 : Int32), f_bars, f_ways))
def fl_X7_layWays_42 (ko_9 : (Nat → Int32) → (Nat → Int32) → Int32 → Int32 → Int32 → Option ((Nat → Int32))) : Nat → (Nat → Int32) → (Nat → Int32) → Int32 → Int32 → Int32 → Int32 → Option ((Nat → Int32))
  | 0, _, _, _, _, _, _ => none
  | n + 1, m_now, m_ways, v1, v2, v3, v4 =>
    (if (m_now 5) ≤ v4 then
      ko_9 m_now m_ways v1 v2 (v3 + (1 : Int32))
    else
      (match f_X7_isFree m_now v4 v3 with
      | none => none
      | some q1 =>
        (if q1 = (0 : Int32) then
          (if v3 < 0 ∨ 256 ≤ (v3).toNatClampNeg then none else
            (if v3 < 0 ∨ 256 ≤ (v3).toNatClampNeg then none else
              fl_X7_layWays_42 ko_9 n m_now (upd m_ways (v3).toNatClampNeg ((m_ways (v3).toNatClampNeg) + (0 : Int32))) v1 v2 v3 (v4 + (1 : Int32))))
        else
          (if v4 = v1 then
            (if (f_X7_has v3 v2) = (0 : Int32) then
              (if v3 < 0 ∨ 256 ≤ (v3).toNatClampNeg then none else
                (if (v3 &&& (((1 : Int32) <<< (v4 &&& (31 : Int32))) ^^^ (-1 : Int32))) < 0 ∨ 256 ≤ ((v3 &&& (((1 : Int32) <<< (v4 &&& (31 : Int32))) ^^^ (-1 : Int32)))).toNatClampNeg then none else
                  (if v3 < 0 ∨ 256 ≤ (v3).toNatClampNeg then none else
                    fl_X7_layWays_42 ko_9 n m_now (upd m_ways (v3).toNatClampNeg ((m_ways (v3).toNatClampNeg) + (m_ways ((v3 &&& (((1 : Int32) <<< (v4 &&& (31 : Int32))) ^^^ (-1 : Int32)))).toNatClampNeg))) v1 v2 v3 (v4 + (1 : Int32)))))
            else
              (if v3 < 0 ∨ 256 ≤ (v3).toNatClampNeg then none else
                (if v3 < 0 ∨ 256 ≤ (v3).toNatClampNeg then none else
                  fl_X7_layWays_42 ko_9 n m_now (upd m_ways (v3).toNatClampNeg ((m_ways (v3).toNatClampNeg) + (0 : Int32))) v1 v2 v3 (v4 + (1 : Int32)))))
          else
            (if v3 < 0 ∨ 256 ≤ (v3).toNatClampNeg then none else
              (if (v3 &&& (((1 : Int32) <<< (v4 &&& (31 : Int32))) ^^^ (-1 : Int32))) < 0 ∨ 256 ≤ ((v3 &&& (((1 : Int32) <<< (v4 &&& (31 : Int32))) ^^^ (-1 : Int32)))).toNatClampNeg then none else
                (if v3 < 0 ∨ 256 ≤ (v3).toNatClampNeg then none else
                  fl_X7_layWays_42 ko_9 n m_now (upd m_ways (v3).toNatClampNeg ((m_ways (v3).toNatClampNeg) + (m_ways ((v3 &&& (((1 : Int32) <<< (v4 &&& (31 : Int32))) ^^^ (-1 : Int32)))).toNatClampNeg))) v1 v2 v3 (v4 + (1 : Int32)))))))))
def fl_X7_layWays_9 : Nat → (Nat → Int32) → (Nat → Int32) → Int32 → Int32 → Int32 → Option ((Nat → Int32))
  | 0, _, _, _, _, _ => none
  | n + 1, m_now, m_ways, v1, v2, v3 =>
    (if (m_now 2) < v3 then
      some (m_ways)
    else
      (if v3 < 0 ∨ 256 ≤ (v3).toNatClampNeg then none else
        (if (v3 &&& ((m_now 2) ^^^ (-1 : Int32))) = (0 : Int32) then
          fl_X7_layWays_42 (fl_X7_layWays_9 n) 300 m_now (upd m_ways (v3).toNatClampNeg (0 : Int32)) v1 v2 v3 (0 : Int32)
        else
          fl_X7_layWays_9 n m_now (upd m_ways (v3).toNatClampNeg (0 : Int32)) v1 v2 (v3 + (1 : Int32)))))
def f_X7_layWays (m_now : (Nat → Int32)) (m_ways : (Nat → Int32)) (p1 : Int32) (p2 : Int32) : Option ((Nat → Int32)) :=
  fl_X7_layWays_9 300 m_now (upd m_ways 0 (1 : Int32)) p1 p2 (1 : Int32)
def fl_X7_orders_46 (ko_39 : (Nat → Int32) → (Nat → Int32) → Int32 → Int32 → Int32 → Option (Int32 × (Nat → Int32))) : Nat → (Nat → Int32) → (Nat → Int32) → Int32 → Int32 → Int32 → Int32 → Option (Int32 × (Nat → Int32))
  | 0, _, _, _, _, _, _ => none
  | n + 1, m_now, m_ways, v1, v2, v3, v4 =>
    (match f_X7_isFree m_now v4 v2 with
    | none => none
    | some q2 =>
      (if q2 = (0 : Int32) then
        fl_X7_orders_46 ko_39 n m_now m_ways v1 v2 v3 (v4 + (1 : Int32))
      else
        (if v3 = v1 then
          some (v4, m_ways)
        else
          ko_39 m_now m_ways v1 (v2 &&& (((1 : Int32) <<< (v4 &&& (31 : Int32))) ^^^ (-1 : Int32))) (v3 + (1 : Int32)))))
def fl_X7_orders_39 : Nat → (Nat → Int32) → (Nat → Int32) → Int32 → Int32 → Int32 → Option (Int32 × (Nat → Int32))
  | 0, _, _, _, _, _ => none
  | n + 1, m_now, m_ways, v1, v2, v3 =>
    (if v2 = (0 : Int32) then
      some ((-4 : Int32), m_ways)
    else
      fl_X7_orders_46 (fl_X7_orders_39 n) 300 m_now m_ways v1 v2 v3 (0 : Int32))
def f_X7_orders (m_now : (Nat → Int32)) (m_ways : (Nat → Int32)) (p1 : Int32) : Option (Int32 × (Nat → Int32)) :=
  (if (-1 : Int32) ≤ p1 then
    (if p1 = (-1 : Int32) then
      (match f_X7_layWays m_now m_ways (-1 : Int32) (0 : Int32) with
      | none => none
      | some q1 =>
        (if (m_now 2) < 0 ∨ 256 ≤ ((m_now 2)).toNatClampNeg then none else
          some ((q1 ((m_now 2)).toNatClampNeg), q1)))
    else
      fl_X7_orders_39 300 m_now m_ways p1 (m_now 2) (0 : Int32))
  else
    some ((-1 : Int32), m_ways))
def f_X1_countOrdersWith (r_t_barred : (Nat → Int32)) (r_tied : Int32) (f_bars : (Nat → Int32)) (f_ways : (Nat → Int32)) (p2 : Int32) (p3 : Int32) : Option (Int32 × (Nat → Int32) × (Nat → Int32)) :=
  (match f_X1_fillBars r_t_barred r_tied f_bars with
  | none => none
  | some q1 =>
    (if p3 < 0 ∨ 8 ≤ (p3).toNatClampNeg then none else
      (if p3 < 0 ∨ 8 ≤ (p3).toNatClampNeg then none else
        (match f_X1_countWays (upd q1 (p3).toNatClampNeg ((q1 (p3).toNatClampNeg) ||| ((1 : Int32) <<< (p2 &&& (31 : Int32))))) f_ways r_tied with
        | none => none
        | some q2 =>
          some (q2.1, (upd q1 (p3).toNatClampNeg ((q1 (p3).toNatClampNeg) ||| ((1 : Int32) <<< (p2 &&& (31 : Int32))))), q2.2)))))
def f_X6_ahead (r_t_barred : (Nat → Int32)) (r_t_size : Int32) (r_tied : Int32) (f_bars : (Nat → Int32)) (f_ways : (Nat → Int32)) (p1 : Int32) (p2 : Int32) (p3 : Int32) : Option (Int32 × (Nat → Int32) × (Nat → Int32)) :=
  (if (f_X6_isClause r_t_size p1) = (0 : Int32) then
    some ((-1 : Int32), f_bars, f_ways)
  else
    (if (f_X6_isClause r_t_size p2) = (0 : Int32) then
      some ((-1 : Int32), f_bars, f_ways)
    else
      (if p1 = p2 then
        some ((-1 : Int32), f_bars, f_ways)
      else
        (if (f_X6_isWithin p3 (0 : Int32) (1 : Int32)) = (0 : Int32) then
          some ((-1 : Int32), f_bars, f_ways)
        else
          (if (f_X6_has r_tied p1) = (0 : Int32) then
            some ((-2 : Int32), f_bars, f_ways)
          else
            (if (f_X6_has r_tied p2) = (0 : Int32) then
              some ((-2 : Int32), f_bars, f_ways)
            else
              (if p3 = (0 : Int32) then
                (match f_X1_countOrdersWith r_t_barred r_tied f_bars f_ways p1 p2 with
                | none => none
                | some q1 =>
                  some (q1.1, q1.2.1, q1.2.2))
              else
                (match f_X1_countOrders r_t_barred r_tied f_bars f_ways with
                | none => none
                | some q2 =>
                  some (q2.1, q2.2.1, q2.2.2)))))))))
def fl_X7_partOf_5 : Nat → Int32 → Int32 → Int32 → Int32 → Int32 → Option (Int32)
  | 0, _, _, _, _, _ => none
  | n + 1, v0, v1, v2, v3, v4 =>
    (if v4 ≤ (0 : Int32) then
      (if v2 = (0 : Int32) then
        (if v3 = 0 then none else
          some ((v0 / v3)))
      else
        (if v3 = 0 then none else
          some ((v1 / v3))))
    else
      (if v4 = 0 then none else
        fl_X7_partOf_5 n v0 v1 v2 v4 (v3 - v3 / v4 * v4)))
def f_X7_partOf (p0 : Int32) (p1 : Int32) (p2 : Int32) : Option (Int32) :=
  fl_X7_partOf_5 300 p0 p1 p2 p0 p1
def f_X7_ahead (m_now : (Nat → Int32)) (m_ways : (Nat → Int32)) (p1 : Int32) (p2 : Int32) (p3 : Int32) : Option (Int32 × (Nat → Int32)) :=
  (if (f_X7_isClause m_now p1) = (0 : Int32) then
    some ((-1 : Int32), m_ways)
  else
    (if (f_X7_isClause m_now p2) = (0 : Int32) then
      some ((-1 : Int32), m_ways)
    else
      (if p1 = p2 then
        some ((-1 : Int32), m_ways)
      else
        (if (f_X7_in p3 (0 : Int32) (1 : Int32)) = (0 : Int32) then
          some ((-1 : Int32), m_ways)
        else
          (if (f_X7_has (m_now 2) p1) = (0 : Int32) then
            some ((-2 : Int32), m_ways)
          else
            (if (f_X7_has (m_now 2) p2) = (0 : Int32) then
              some ((-2 : Int32), m_ways)
            else
              (match f_X7_layWays m_now m_ways (-1 : Int32) (0 : Int32) with
              | none => none
              | some q1 =>
                (if (m_now 2) < 0 ∨ 256 ≤ ((m_now 2)).toNatClampNeg then none else
                  (match f_X7_layWays m_now q1 p2 p1 with
                  | none => none
                  | some q2 =>
                    (if (m_now 2) < 0 ∨ 256 ≤ ((m_now 2)).toNatClampNeg then none else
                      (match f_X7_partOf (q2 ((m_now 2)).toNatClampNeg) (q1 ((m_now 2)).toNatClampNeg) p3 with
                      | none => none
                      | some q3 =>
                        some (q3, q2))))))))))))
def f_X6_game (r_t_barred : (Nat → Int32)) (r_tied : Int32) (p1 : Int32) (p2 : Int32) : Option (Int32) :=
  (if (f_X6_isWithin p1 (0 : Int32) (1 : Int32)) = (0 : Int32) then
    some ((-1 : Int32))
  else
    (if (f_X6_isWithin p2 (0 : Int32) (1 : Int32)) = (0 : Int32) then
      some ((-1 : Int32))
    else
      (if (((f_J6_bitCount r_tied) + p1) - ((f_J6_bitCount r_tied) + p1) / (2 : Int32) * (2 : Int32)) = (1 : Int32) then
        (if p2 = (0 : Int32) then
          some ((1 : Int32))
        else
          (match f_X4_freeAmong r_t_barred r_tied with
          | none => none
          | some q1 =>
            (match f_X6_nthOf q1 (0 : Int32) with
            | none => none
            | some q2 =>
              some (q2))))
      else
        (if p2 = (0 : Int32) then
          some ((0 : Int32))
        else
          some ((-4 : Int32))))))
def fl_X7_game_74 (ko_42 : (Nat → Int32) → (Nat → Int32) → Int32 → Int32 → Int32 → Option (Int32 × (Nat → Int32))) : Nat → (Nat → Int32) → (Nat → Int32) → Int32 → Int32 → Int32 → Int32 → Option (Int32 × (Nat → Int32))
  | 0, _, _, _, _, _, _ => none
  | n + 1, m_now, m_wins, v2, v3, v4, v5 =>
    (if v5 < (0 : Int32) then
      ko_42 m_now m_wins v2 v3 (v4 + (1 : Int32))
    else
      (if (v4 &&& ((m_now 2) ^^^ (-1 : Int32))) = (0 : Int32) then
        (match f_X7_isFree m_now v5 v4 with
        | none => none
        | some q1 =>
          (if q1 = (0 : Int32) then
            fl_X7_game_74 ko_42 n m_now m_wins v2 v3 v4 (v5 + (-1 : Int32))
          else
            (if (v4 &&& (((1 : Int32) <<< (v5 &&& (31 : Int32))) ^^^ (-1 : Int32))) < 0 ∨ 256 ≤ ((v4 &&& (((1 : Int32) <<< (v5 &&& (31 : Int32))) ^^^ (-1 : Int32)))).toNatClampNeg then none else
              (if (m_wins ((v4 &&& (((1 : Int32) <<< (v5 &&& (31 : Int32))) ^^^ (-1 : Int32)))).toNatClampNeg) = (0 : Int32) then
                (if v4 < 0 ∨ 256 ≤ (v4).toNatClampNeg then none else
                  fl_X7_game_74 ko_42 n m_now (upd m_wins (v4).toNatClampNeg (1 : Int32)) v2 v5 v4 (v5 + (-1 : Int32)))
              else
                fl_X7_game_74 ko_42 n m_now m_wins v2 v3 v4 (v5 + (-1 : Int32))))))
      else
        ko_42 m_now m_wins v2 v3 (v4 + (1 : Int32))))
def fl_X7_game_42 : Nat → (Nat → Int32) → (Nat → Int32) → Int32 → Int32 → Int32 → Option (Int32 × (Nat → Int32))
  | 0, _, _, _, _, _ => none
  | n + 1, m_now, m_wins, v2, v3, v4 =>
    (if (m_now 2) < v4 then
      (if v2 = (0 : Int32) then
        (if (m_now 2) < 0 ∨ 256 ≤ ((m_now 2)).toNatClampNeg then none else
          (if (m_wins ((m_now 2)).toNatClampNeg) = (0 : Int32) then
            some ((0 : Int32), m_wins)
          else
            some ((1 : Int32), m_wins)))
      else
        some (v3, m_wins))
    else
      (if v4 < 0 ∨ 256 ≤ (v4).toNatClampNeg then none else
        fl_X7_game_74 (fl_X7_game_42 n) 300 m_now (upd m_wins (v4).toNatClampNeg (0 : Int32)) v2 (-4 : Int32) v4 ((m_now 5) - (1 : Int32))))
def f_X7_game (m_now : (Nat → Int32)) (m_wins : (Nat → Int32)) (p1 : Int32) (p2 : Int32) : Option (Int32 × (Nat → Int32)) :=
  (if (f_X7_in p1 (0 : Int32) (1 : Int32)) = (0 : Int32) then
    some ((-1 : Int32), m_wins)
  else
    (if (f_X7_in p2 (0 : Int32) (1 : Int32)) = (0 : Int32) then
      some ((-1 : Int32), m_wins)
    else
      (if p1 = (1 : Int32) then
        fl_X7_game_42 300 m_now (upd m_wins 0 (1 : Int32)) p2 (-4 : Int32) (1 : Int32)
      else
        fl_X7_game_42 300 m_now (upd m_wins 0 (0 : Int32)) p2 (-4 : Int32) (1 : Int32))))
def f_X6_cuts (r_t_kinds : (Nat → Int32)) (r_t_holds : (Nat → Int32)) (r_t_barred : (Nat → Int32)) (r_t_size : Int32) (r_tied : Int32) (r_wet : Int32) (r_day : Int32) (p1 : Int32) (p2 : Int32) (p3 : Int32) : Option (Int32) :=
  (if (f_X6_isClause r_t_size p1) = (0 : Int32) then
    some ((-1 : Int32))
  else
    (if (f_X6_isForce p2) = (0 : Int32) then
      some ((-1 : Int32))
    else
      (if (f_X6_isWithin p3 (0 : Int32) (1 : Int32)) = (0 : Int32) then
        some ((-1 : Int32))
      else
        (if (f_X6_has r_tied p1) = (0 : Int32) then
          some ((-4 : Int32))
        else
          (match f_X4_firmOf r_t_kinds r_t_holds r_wet r_day p1 with
          | none => none
          | some q1 =>
            (if q1 ≤ p2 then
              (if p1 < 0 ∨ 8 ≤ (p1).toNatClampNeg then none else
                (if p3 = (0 : Int32) then
                  some ((f_J6_bitCount ((r_t_barred (p1).toNatClampNeg) &&& r_tied)))
                else
                  some (((r_t_barred (p1).toNatClampNeg) &&& r_tied))))
            else
              some ((-4 : Int32))))))))
def fl_X7_cuts_36 : Nat → (Nat → Int32) → (Nat → Int32) → Int32 → Int32 → Int32 → Int32 → Int32 → Option (Int32 × (Nat → Int32))
  | 0, _, _, _, _, _, _, _ => none
  | n + 1, m_now, m_tried, v1, v2, v3, v4, v5 =>
    (if (m_now 2) < v5 then
      (if v4 = (-4 : Int32) then
        some ((-4 : Int32), m_tried)
      else
        (if v3 = (0 : Int32) then
          (match f_X7_bits v4 with
          | none => none
          | some q1 =>
            some (q1, m_tried))
        else
          some (v4, m_tried)))
    else
      (if (v5 &&& ((m_now 2) ^^^ (-1 : Int32))) = (0 : Int32) then
        (if (f_X7_has v5 v1) = (0 : Int32) then
          (if v4 = (-4 : Int32) then
            (match f_X7_begin m_now m_tried with
            | none => none
            | some q2 =>
              (match f_X7_pullIn_1 (upd q2 2 ((q2 2) &&& (v5 ^^^ (-1 : Int32)))) v2 with
              | none => none
              | some q3 =>
                (if (f_X7_has q3.1 v1) = (0 : Int32) then
                  fl_X7_cuts_36 n m_now q3.2 v1 v2 v3 v4 (v5 + (1 : Int32))
                else
                  fl_X7_cuts_36 n m_now q3.2 v1 v2 v3 v5 (v5 + (1 : Int32)))))
          else
            (match f_X7_bits v5 with
            | none => none
            | some q4 =>
              (match f_X7_bits v4 with
              | none => none
              | some q5 =>
                (if q5 ≤ q4 then
                  fl_X7_cuts_36 n m_now m_tried v1 v2 v3 v4 (v5 + (1 : Int32))
                else
                  (match f_X7_begin m_now m_tried with
                  | none => none
                  | some q6 =>
                    (match f_X7_pullIn_1 (upd q6 2 ((q6 2) &&& (v5 ^^^ (-1 : Int32)))) v2 with
                    | none => none
                    | some q7 =>
                      (if (f_X7_has q7.1 v1) = (0 : Int32) then
                        fl_X7_cuts_36 n m_now q7.2 v1 v2 v3 v4 (v5 + (1 : Int32))
                      else
                        fl_X7_cuts_36 n m_now q7.2 v1 v2 v3 v5 (v5 + (1 : Int32)))))))))
        else
          fl_X7_cuts_36 n m_now m_tried v1 v2 v3 v4 (v5 + (1 : Int32)))
      else
        fl_X7_cuts_36 n m_now m_tried v1 v2 v3 v4 (v5 + (1 : Int32))))
def f_X7_cuts (m_now : (Nat → Int32)) (m_tried : (Nat → Int32)) (p1 : Int32) (p2 : Int32) (p3 : Int32) : Option (Int32 × (Nat → Int32)) :=
  (if (f_X7_isClause m_now p1) = (0 : Int32) then
    some ((-1 : Int32), m_tried)
  else
    (if (f_X7_in p2 (0 : Int32) (99 : Int32)) = (0 : Int32) then
      some ((-1 : Int32), m_tried)
    else
      (if (f_X7_in p3 (0 : Int32) (1 : Int32)) = (0 : Int32) then
        some ((-1 : Int32), m_tried)
      else
        fl_X7_cuts_36 300 m_now m_tried p1 p2 p3 (-4 : Int32) (0 : Int32))))
def fl_X6_weather_19 : Nat → (Nat → Int32) → (Nat → Int32) → Int32 → Int32 → Int32 → Int32 → Int32 → Int32 → Option (Int32)
  | 0, _, _, _, _, _, _, _, _ => none
  | n + 1, r_t_kinds, r_t_holds, r_t_size, r_wet, r_day, v1, v2, v3 =>
    (if (60 : Int32) < v3 then
      some ((-4 : Int32))
    else
      (match f_X4_firmOnDay r_t_kinds r_t_holds r_wet v1 (r_day + v3) with
      | none => none
      | some q1 =>
        (if v2 < q1 then
          fl_X6_weather_19 n r_t_kinds r_t_holds r_t_size r_wet r_day v1 v2 (v3 + (1 : Int32))
        else
          some (v3))))
def f_X6_weather (r_t_kinds : (Nat → Int32)) (r_t_holds : (Nat → Int32)) (r_t_size : Int32) (r_wet : Int32) (r_day : Int32) (p1 : Int32) (p2 : Int32) : Option (Int32) :=
  (if (f_X6_isClause r_t_size p1) = (0 : Int32) then
    some ((-1 : Int32))
  else
    (if (f_X6_isForce p2) = (0 : Int32) then
      some ((-1 : Int32))
    else
      fl_X6_weather_19 300 r_t_kinds r_t_holds r_t_size r_wet r_day p1 p2 (0 : Int32)))
def fl_X7_weather_26 : Nat → (Nat → Int32) → (Nat → Int32) → Int32 → Int32 → Int32 → Option (Int32 × (Nat → Int32))
  | 0, _, _, _, _, _ => none
  | n + 1, m_now, m_tried, v1, v2, v3 =>
    (if (60 : Int32) < v3 then
      some ((-4 : Int32), m_tried)
    else
      (match f_X7_firm_1 m_tried v1 with
      | none => none
      | some q2 =>
        (if v2 < q2 then
          fl_X7_weather_26 n m_now (upd m_tried 0 ((m_tried 0) + (1 : Int32))) v1 v2 (v3 + (1 : Int32))
        else
          some (v3, m_tried))))
def f_X7_weather (m_now : (Nat → Int32)) (m_tried : (Nat → Int32)) (p1 : Int32) (p2 : Int32) : Option (Int32 × (Nat → Int32)) :=
  (if (f_X7_isClause m_now p1) = (0 : Int32) then
    some ((-1 : Int32), m_tried)
  else
    (if (f_X7_in p2 (0 : Int32) (99 : Int32)) = (0 : Int32) then
      some ((-1 : Int32), m_tried)
    else
      (match f_X7_begin m_now m_tried with
      | none => none
      | some q1 =>
        fl_X7_weather_26 300 m_now q1 p1 p2 (0 : Int32))))
def fl_X6_lowestPartOf_7 : Nat → Int32 → Int32 → Int32 → Option (Int32)
  | 0, _, _, _ => none
  | n + 1, v2, v3, v4 =>
    (if (8 : Int32) ≤ v4 then
      some (v2)
    else
      (if (v2 - v2 / (2 : Int32) * (2 : Int32)) = (0 : Int32) then
        (if (v3 - v3 / (2 : Int32) * (2 : Int32)) = (0 : Int32) then
          (if (kn_se ((v2 / (2 : Int32)) - (v2 / (2 : Int32)) / (5 : Int32) * (5 : Int32))) = (0 : Int32) then
            (if (kn_se ((v3 / (2 : Int32)) - (v3 / (2 : Int32)) / (5 : Int32) * (5 : Int32))) = (0 : Int32) then
              fl_X6_lowestPartOf_7 n (kn_se ((v2 / (2 : Int32)) / (5 : Int32))) (kn_se ((v3 / (2 : Int32)) / (5 : Int32))) (v4 + (1 : Int32))
            else
              fl_X6_lowestPartOf_7 n (v2 / (2 : Int32)) (v3 / (2 : Int32)) (v4 + (1 : Int32)))
          else
            fl_X6_lowestPartOf_7 n (v2 / (2 : Int32)) (v3 / (2 : Int32)) (v4 + (1 : Int32)))
        else
          (if (v2 - v2 / (5 : Int32) * (5 : Int32)) = (0 : Int32) then
            (if (v3 - v3 / (5 : Int32) * (5 : Int32)) = (0 : Int32) then
              fl_X6_lowestPartOf_7 n (v2 / (5 : Int32)) (v3 / (5 : Int32)) (v4 + (1 : Int32))
            else
              fl_X6_lowestPartOf_7 n v2 v3 (v4 + (1 : Int32)))
          else
            fl_X6_lowestPartOf_7 n v2 v3 (v4 + (1 : Int32))))
      else
        (if (v2 - v2 / (5 : Int32) * (5 : Int32)) = (0 : Int32) then
          (if (v3 - v3 / (5 : Int32) * (5 : Int32)) = (0 : Int32) then
            fl_X6_lowestPartOf_7 n (v2 / (5 : Int32)) (v3 / (5 : Int32)) (v4 + (1 : Int32))
          else
            fl_X6_lowestPartOf_7 n v2 v3 (v4 + (1 : Int32)))
        else
          fl_X6_lowestPartOf_7 n v2 v3 (v4 + (1 : Int32)))))
def f_X6_lowestPartOf (p0 : Int32) (p1 : Int32) : Option (Int32) :=
  fl_X6_lowestPartOf_7 300 p0 p1 (0 : Int32)
def fl_X6_powerOf_4 : Nat → Int32 → Int32 → Int32 → Int32 → Option (Int32)
  | 0, _, _, _, _ => none
  | n + 1, v0, v1, v2, v3 =>
    (if v1 ≤ v3 then
      some (v2)
    else
      fl_X6_powerOf_4 n v0 v1 (v2 * v0) (v3 + (1 : Int32)))
def f_X6_powerOf (p0 : Int32) (p1 : Int32) : Option (Int32) :=
  fl_X6_powerOf_4 300 p0 p1 (1 : Int32) (0 : Int32)
def f_X6_rotten (r_t_kinds : (Nat → Int32)) (r_t_holds : (Nat → Int32)) (r_t_barred : (Nat → Int32)) (r_t_size : Int32) (r_tied : Int32) (r_wet : Int32) (r_day : Int32) (p1 : Int32) (p2 : Int32) (p3 : Int32) (p4 : Int32) : Option (Int32) :=
  (if (f_X6_isClause r_t_size p1) = (0 : Int32) then
    some ((-1 : Int32))
  else
    (if (f_X6_isForce p2) = (0 : Int32) then
      some ((-1 : Int32))
    else
      (if (f_X6_isWithin p3 (0 : Int32) (10 : Int32)) = (0 : Int32) then
        some ((-1 : Int32))
      else
        (if (f_X6_isWithin p4 (0 : Int32) (1 : Int32)) = (0 : Int32) then
          some ((-1 : Int32))
        else
          (if (f_X6_has r_tied p1) = (0 : Int32) then
            some ((1 : Int32))
          else
            (match f_X4_firmOf r_t_kinds r_t_holds r_wet r_day p1 with
            | none => none
            | some q1 =>
              (if p2 < q1 then
                (if p4 = (0 : Int32) then
                  (match f_X6_lowestPartOf p3 (10 : Int32) with
                  | none => none
                  | some q2 =>
                    some (q2))
                else
                  (match f_X6_lowestPartOf (10 : Int32) p3 with
                  | none => none
                  | some q3 =>
                    some (q3)))
              else
                (if p1 < 0 ∨ 8 ≤ (p1).toNatClampNeg then none else
                  (match f_X6_powerOf (10 : Int32) (f_J6_bitCount ((r_t_barred (p1).toNatClampNeg) &&& r_tied)) with
                  | none => none
                  | some q4 =>
                    (match f_X6_powerOf p3 (f_J6_bitCount ((r_t_barred (p1).toNatClampNeg) &&& r_tied)) with
                    | none => none
                    | some q5 =>
                      (if p4 = (0 : Int32) then
                        (match f_X6_lowestPartOf ((p3 * q4) + (((10 : Int32) - p3) * q5)) ((10 : Int32) * q4) with
                        | none => none
                        | some q6 =>
                          some (q6))
                      else
                        (match f_X6_lowestPartOf ((10 : Int32) * q4) ((p3 * q4) + (((10 : Int32) - p3) * q5)) with
                        | none => none
                        | some q7 =>
                          some (q7)))))))))))))
def fl_X7_rotten_110 (ko_79 : (Nat → Int32) → (Nat → Int32) → Int32 → Int32 → Int32 → Int32 → Int32 → Int32 → Int32 → Option (Int32 × (Nat → Int32))) : Nat → (Nat → Int32) → (Nat → Int32) → Int32 → Int32 → Int32 → Int32 → Int32 → Int32 → Int32 → Int32 → Int32 → Option (Int32 × (Nat → Int32))
  | 0, _, _, _, _, _, _, _, _, _, _, _ => none
  | n + 1, m_now, m_tried, v1, v2, v3, v4, v5, v6, v7, v8, v9 =>
    (if (m_now 5) ≤ v9 then
      (match f_X7_begin m_now m_tried with
      | none => none
      | some q3 =>
        (match f_X7_pullIn_1 (upd q3 2 ((q3 2) &&& (v7 ^^^ (-1 : Int32)))) v2 with
        | none => none
        | some q4 =>
          (if (f_X7_has (q4.2 2) v1) = (0 : Int32) then
            ko_79 m_now q4.2 v1 v2 v3 v4 (v5 + v8) v6 (v7 + (1 : Int32))
          else
            ko_79 m_now q4.2 v1 v2 v3 v4 (v5 + (0 : Int32)) v6 (v7 + (1 : Int32)))))
    else
      (if (f_X7_has (m_now 2) v9) = (0 : Int32) then
        fl_X7_rotten_110 ko_79 n m_now m_tried v1 v2 v3 v4 v5 v6 v7 (v8 * (1 : Int32)) (v9 + (1 : Int32))
      else
        (if (f_X7_has v7 v9) = (0 : Int32) then
          fl_X7_rotten_110 ko_79 n m_now m_tried v1 v2 v3 v4 v5 v6 v7 (v8 * ((10 : Int32) - v3)) (v9 + (1 : Int32))
        else
          fl_X7_rotten_110 ko_79 n m_now m_tried v1 v2 v3 v4 v5 v6 v7 (v8 * v3) (v9 + (1 : Int32)))))
def fl_X7_rotten_79 : Nat → (Nat → Int32) → (Nat → Int32) → Int32 → Int32 → Int32 → Int32 → Int32 → Int32 → Int32 → Option (Int32 × (Nat → Int32))
  | 0, _, _, _, _, _, _, _, _, _ => none
  | n + 1, m_now, m_tried, v1, v2, v3, v4, v5, v6, v7 =>
    (if (m_now 2) < v7 then
      (match f_X7_partOf v5 v6 v4 with
      | none => none
      | some q2 =>
        some (q2, m_tried))
    else
      (if (v7 &&& ((m_now 2) ^^^ (-1 : Int32))) = (0 : Int32) then
        fl_X7_rotten_110 (fl_X7_rotten_79 n) 300 m_now m_tried v1 v2 v3 v4 v5 v6 v7 (1 : Int32) (0 : Int32)
      else
        fl_X7_rotten_79 n m_now m_tried v1 v2 v3 v4 v5 v6 (v7 + (1 : Int32))))
def fl_X7_rotten_49 : Nat → (Nat → Int32) → (Nat → Int32) → Int32 → Int32 → Int32 → Int32 → Int32 → Int32 → Int32 → Option (Int32 × (Nat → Int32))
  | 0, _, _, _, _, _, _, _, _, _ => none
  | n + 1, m_now, m_tried, v1, v2, v3, v4, v5, v6, v7 =>
    (match f_X7_bits (m_now 2) with
    | none => none
    | some q1 =>
      (if q1 ≤ v7 then
        fl_X7_rotten_79 300 m_now m_tried v1 v2 v3 v4 v5 v6 (0 : Int32)
      else
        fl_X7_rotten_49 n m_now m_tried v1 v2 v3 v4 v5 (v6 * (10 : Int32)) (v7 + (1 : Int32))))
def f_X7_rotten (m_now : (Nat → Int32)) (m_tried : (Nat → Int32)) (p1 : Int32) (p2 : Int32) (p3 : Int32) (p4 : Int32) : Option (Int32 × (Nat → Int32)) :=
  (if (f_X7_isClause m_now p1) = (0 : Int32) then
    some ((-1 : Int32), m_tried)
  else
    (if (f_X7_in p2 (0 : Int32) (99 : Int32)) = (0 : Int32) then
      some ((-1 : Int32), m_tried)
    else
      (if (f_X7_in p3 (0 : Int32) (10 : Int32)) = (0 : Int32) then
        some ((-1 : Int32), m_tried)
      else
        (if (f_X7_in p4 (0 : Int32) (1 : Int32)) = (0 : Int32) then
          some ((-1 : Int32), m_tried)
        else
          fl_X7_rotten_49 300 m_now m_tried p1 p2 p3 p4 (0 : Int32) (1 : Int32) (0 : Int32)))))
def f_X0_become_1 (r_t_kinds : (Nat → Int32)) (r_t_holds : (Nat → Int32)) (r_t_barred : (Nat → Int32)) (r_t_parties : (Nat → Int32)) (r_t_size : Int32) (k_t_kinds : (Nat → Int32)) (k_t_holds : (Nat → Int32)) (k_t_barred : (Nat → Int32)) (k_t_parties : (Nat → Int32)) (k_t_size : Int32) : Option ((Nat → Int32) × (Nat → Int32) × (Nat → Int32) × (Nat → Int32) × Int32) :=
  some ((va_cpy r_t_kinds k_t_kinds 0 0 8), (va_cpy r_t_holds k_t_holds 0 0 8), (va_cpy r_t_barred k_t_barred 0 0 8), (va_cpy r_t_parties k_t_parties 0 0 8), r_t_size)
def f_X2_become (r_p_numbers : (Nat → Int32)) (r_p_size : Int32) (k_p_numbers : (Nat → Int32)) (k_p_size : Int32) : Option ((Nat → Int32) × Int32) :=
  some ((va_cpy r_p_numbers k_p_numbers 0 0 40), r_p_size)
def f_X4_become (r_t_kinds : (Nat → Int32)) (r_t_holds : (Nat → Int32)) (r_t_barred : (Nat → Int32)) (r_t_parties : (Nat → Int32)) (r_t_size : Int32) (r_p_numbers : (Nat → Int32)) (r_p_size : Int32) (r_tied : Int32) (r_wars : Int32) (r_wet : Int32) (r_day : Int32) (r_drawn : Int32) (k_t_kinds : (Nat → Int32)) (k_t_holds : (Nat → Int32)) (k_t_barred : (Nat → Int32)) (k_t_parties : (Nat → Int32)) (k_t_size : Int32) (k_p_numbers : (Nat → Int32)) (k_p_size : Int32) (k_tied : Int32) (k_wars : Int32) (k_wet : Int32) (k_day : Int32) (k_drawn : Int32) : Option ((Nat → Int32) × (Nat → Int32) × (Nat → Int32) × (Nat → Int32) × Int32 × (Nat → Int32) × Int32 × Int32 × Int32 × Int32 × Int32 × Int32) :=
  (match f_X0_become_1 r_t_kinds r_t_holds r_t_barred r_t_parties r_t_size k_t_kinds k_t_holds k_t_barred k_t_parties k_t_size with
  | none => none
  | some q1 =>
    (match f_X2_become r_p_numbers r_p_size k_p_numbers k_p_size with
    | none => none
    | some q2 =>
      some (q1.1, q1.2.1, q1.2.2.1, q1.2.2.2.1, q1.2.2.2.2, q2.1, q2.2, r_tied, r_wars, r_wet, r_day, r_drawn)))
def f_X6_image (r_t_kinds : (Nat → Int32)) (r_t_holds : (Nat → Int32)) (r_t_barred : (Nat → Int32)) (r_t_parties : (Nat → Int32)) (r_t_size : Int32) (r_p_numbers : (Nat → Int32)) (r_p_size : Int32) (r_tied : Int32) (r_wars : Int32) (r_wet : Int32) (r_day : Int32) (r_drawn : Int32) (k_t_kinds : (Nat → Int32)) (k_t_holds : (Nat → Int32)) (k_t_barred : (Nat → Int32)) (k_t_parties : (Nat → Int32)) (k_t_size : Int32) (k_p_numbers : (Nat → Int32)) (k_p_size : Int32) (k_tied : Int32) (k_wars : Int32) (k_wet : Int32) (k_day : Int32) (k_drawn : Int32) (isKept : Int32) : Option (Int32 × (Nat → Int32) × (Nat → Int32) × (Nat → Int32) × (Nat → Int32) × Int32 × (Nat → Int32) × Int32 × Int32 × Int32 × Int32 × Int32 × Int32 × Int32) :=
  (match f_X4_become r_t_kinds r_t_holds r_t_barred r_t_parties r_t_size r_p_numbers r_p_size r_tied r_wars r_wet r_day r_drawn k_t_kinds k_t_holds k_t_barred k_t_parties k_t_size k_p_numbers k_p_size k_tied k_wars k_wet k_day k_drawn with
  | none => none
  | some q1 =>
    some ((1 : Int32), q1.1, q1.2.1, q1.2.2.1, q1.2.2.2.1, q1.2.2.2.2.1, q1.2.2.2.2.2.1, q1.2.2.2.2.2.2.1, q1.2.2.2.2.2.2.2.1, q1.2.2.2.2.2.2.2.2.1, q1.2.2.2.2.2.2.2.2.2.1, q1.2.2.2.2.2.2.2.2.2.2.1, q1.2.2.2.2.2.2.2.2.2.2.2, (1 : Int32)))
def fl_X7_bring_3_3 : Nat → (Nat → Int32) → (Nat → Int32) → Int32 → Int32 → Int32 → Int32 → Option ((Nat → Int32))
  | 0, _, _, _, _, _, _ => none
  | n + 1, m_now, m_kept, v1, v3, v4, v5 =>
    (if v4 ≤ v5 then
      some (m_kept)
    else
      (if (v1 + v5) < 0 ∨ 79 ≤ ((v1 + v5)).toNatClampNeg then none else
        (if (v3 + v5) < 0 ∨ 79 ≤ ((v3 + v5)).toNatClampNeg then none else
          fl_X7_bring_3_3 n m_now (upd m_kept ((v3 + v5)).toNatClampNeg (m_now ((v1 + v5)).toNatClampNeg)) v1 v3 v4 (v5 + (1 : Int32)))))
def f_X7_bring_3 (m_now : (Nat → Int32)) (m_kept : (Nat → Int32)) (p1 : Int32) (p3 : Int32) (p4 : Int32) : Option ((Nat → Int32)) :=
  fl_X7_bring_3_3 300 m_now m_kept p1 p3 p4 (0 : Int32)
def f_X7_image (m_now : (Nat → Int32)) (m_kept : (Nat → Int32)) (m_isKept : Int32) : Option (Int32 × (Nat → Int32) × Int32) :=
  (match f_X7_bring_3 m_now m_kept (0 : Int32) (0 : Int32) (79 : Int32) with
  | none => none
  | some q1 =>
    some ((1 : Int32), q1, (1 : Int32)))
def f_X0_become_2 (r_t_kinds : (Nat → Int32)) (r_t_holds : (Nat → Int32)) (r_t_barred : (Nat → Int32)) (r_t_parties : (Nat → Int32)) (r_t_size : Int32) (k_t_kinds : (Nat → Int32)) (k_t_holds : (Nat → Int32)) (k_t_barred : (Nat → Int32)) (k_t_parties : (Nat → Int32)) (k_t_size : Int32) : Option ((Nat → Int32) × (Nat → Int32) × (Nat → Int32) × (Nat → Int32) × Int32) :=
  some ((va_cpy k_t_kinds r_t_kinds 0 0 8), (va_cpy k_t_holds r_t_holds 0 0 8), (va_cpy k_t_barred r_t_barred 0 0 8), (va_cpy k_t_parties r_t_parties 0 0 8), k_t_size)
def f_X2_become_1 (r_p_numbers : (Nat → Int32)) (r_p_size : Int32) (k_p_numbers : (Nat → Int32)) (k_p_size : Int32) : Option ((Nat → Int32) × Int32) :=
  some ((va_cpy k_p_numbers r_p_numbers 0 0 40), k_p_size)
def f_X4_become_1 (r_t_kinds : (Nat → Int32)) (r_t_holds : (Nat → Int32)) (r_t_barred : (Nat → Int32)) (r_t_parties : (Nat → Int32)) (r_t_size : Int32) (r_p_numbers : (Nat → Int32)) (r_p_size : Int32) (r_tied : Int32) (r_wars : Int32) (r_wet : Int32) (r_day : Int32) (r_drawn : Int32) (k_t_kinds : (Nat → Int32)) (k_t_holds : (Nat → Int32)) (k_t_barred : (Nat → Int32)) (k_t_parties : (Nat → Int32)) (k_t_size : Int32) (k_p_numbers : (Nat → Int32)) (k_p_size : Int32) (k_tied : Int32) (k_wars : Int32) (k_wet : Int32) (k_day : Int32) (k_drawn : Int32) : Option ((Nat → Int32) × (Nat → Int32) × (Nat → Int32) × (Nat → Int32) × Int32 × (Nat → Int32) × Int32 × Int32 × Int32 × Int32 × Int32 × Int32) :=
  (match f_X0_become_2 r_t_kinds r_t_holds r_t_barred r_t_parties r_t_size k_t_kinds k_t_holds k_t_barred k_t_parties k_t_size with
  | none => none
  | some q1 =>
    (match f_X2_become_1 r_p_numbers r_p_size k_p_numbers k_p_size with
    | none => none
    | some q2 =>
      some (q1.1, q1.2.1, q1.2.2.1, q1.2.2.2.1, q1.2.2.2.2, q2.1, q2.2, k_tied, k_wars, k_wet, k_day, k_drawn)))
def f_X6_restore (r_t_kinds : (Nat → Int32)) (r_t_holds : (Nat → Int32)) (r_t_barred : (Nat → Int32)) (r_t_parties : (Nat → Int32)) (r_t_size : Int32) (r_p_numbers : (Nat → Int32)) (r_p_size : Int32) (r_tied : Int32) (r_wars : Int32) (r_wet : Int32) (r_day : Int32) (r_drawn : Int32) (k_t_kinds : (Nat → Int32)) (k_t_holds : (Nat → Int32)) (k_t_barred : (Nat → Int32)) (k_t_parties : (Nat → Int32)) (k_t_size : Int32) (k_p_numbers : (Nat → Int32)) (k_p_size : Int32) (k_tied : Int32) (k_wars : Int32) (k_wet : Int32) (k_day : Int32) (k_drawn : Int32) (isKept : Int32) : Option (Int32 × (Nat → Int32) × (Nat → Int32) × (Nat → Int32) × (Nat → Int32) × Int32 × (Nat → Int32) × Int32 × Int32 × Int32 × Int32 × Int32 × Int32) :=
  (if isKept = (0 : Int32) then
    some ((-4 : Int32), r_t_kinds, r_t_holds, r_t_barred, r_t_parties, r_t_size, r_p_numbers, r_p_size, r_tied, r_wars, r_wet, r_day, r_drawn)
  else
    (match f_X4_become_1 r_t_kinds r_t_holds r_t_barred r_t_parties r_t_size r_p_numbers r_p_size r_tied r_wars r_wet r_day r_drawn k_t_kinds k_t_holds k_t_barred k_t_parties k_t_size k_p_numbers k_p_size k_tied k_wars k_wet k_day k_drawn with
    | none => none
    | some q1 =>
      some ((1 : Int32), q1.1, q1.2.1, q1.2.2.1, q1.2.2.2.1, q1.2.2.2.2.1, q1.2.2.2.2.2.1, q1.2.2.2.2.2.2.1, q1.2.2.2.2.2.2.2.1, q1.2.2.2.2.2.2.2.2.1, q1.2.2.2.2.2.2.2.2.2.1, q1.2.2.2.2.2.2.2.2.2.2.1, q1.2.2.2.2.2.2.2.2.2.2.2)))
def fl_X7_bring_4_3 : Nat → (Nat → Int32) → (Nat → Int32) → Int32 → Int32 → Int32 → Int32 → Option ((Nat → Int32))
  | 0, _, _, _, _, _, _ => none
  | n + 1, m_now, m_kept, v1, v3, v4, v5 =>
    (if v4 ≤ v5 then
      some (m_now)
    else
      (if (v1 + v5) < 0 ∨ 79 ≤ ((v1 + v5)).toNatClampNeg then none else
        (if (v3 + v5) < 0 ∨ 79 ≤ ((v3 + v5)).toNatClampNeg then none else
          fl_X7_bring_4_3 n (upd m_now ((v3 + v5)).toNatClampNeg (m_kept ((v1 + v5)).toNatClampNeg)) m_kept v1 v3 v4 (v5 + (1 : Int32)))))
def f_X7_bring_4 (m_now : (Nat → Int32)) (m_kept : (Nat → Int32)) (p1 : Int32) (p3 : Int32) (p4 : Int32) : Option ((Nat → Int32)) :=
  fl_X7_bring_4_3 300 m_now m_kept p1 p3 p4 (0 : Int32)
def f_X7_restore (m_now : (Nat → Int32)) (m_kept : (Nat → Int32)) (m_isKept : Int32) : Option (Int32 × (Nat → Int32)) :=
  (if m_isKept = (0 : Int32) then
    some ((-4 : Int32), m_now)
  else
    (match f_X7_bring_4 m_now m_kept (0 : Int32) (0 : Int32) (79 : Int32) with
    | none => none
    | some q1 =>
      some ((1 : Int32), q1)))
def f_X6_isSheet (p0 : Int32) : Int32 :=
  (f_X6_isWithin p0 (0 : Int32) (3 : Int32))
def f_X6_isLane (p0 : Int32) : Int32 :=
  (f_X6_isWithin p0 (0 : Int32) (3 : Int32))
def f_X5_isInside (s_sizes : (Nat → Int32)) (p1 : Int32) (p2 : Int32) (p3 : Int32) : Option (Int32) :=
  (if p2 < (0 : Int32) then
    some ((0 : Int32))
  else
    (if p3 < (0 : Int32) then
      some ((0 : Int32))
    else
      (if p1 < 0 ∨ 4 ≤ (p1).toNatClampNeg then none else
        (if ((s_sizes (p1).toNatClampNeg) - p3) < p2 then
          some ((0 : Int32))
        else
          some ((1 : Int32))))))
def f_X5_faultOf (s_lanes : (Nat → Int32)) (s_sizes : (Nat → Int32)) (p1 : Int32) (p2 : Int32) (p3 : Int32) (p4 : Int32) : Option (Int32) :=
  (if p1 < 0 ∨ 4 ≤ (p1).toNatClampNeg then none else
    (if (s_lanes (p1).toNatClampNeg) = (-1 : Int32) then
      some ((-11 : Int32))
    else
      (if p1 < 0 ∨ 4 ≤ (p1).toNatClampNeg then none else
        (if (s_lanes (p1).toNatClampNeg) = p2 then
          (match f_X5_isInside s_sizes p1 p3 p4 with
          | none => none
          | some q1 =>
            (if q1 = (0 : Int32) then
              some ((-13 : Int32))
            else
              some ((0 : Int32))))
        else
          some ((-12 : Int32))))))
def f_X5_get (s_sizes : (Nat → Int32)) (s_items : (Nat → Int64)) (p1 : Int32) (p2 : Int32) : Option (Int64) :=
  (match f_X5_isInside s_sizes p1 p2 (1 : Int32) with
  | none => none
  | some q1 =>
    (if q1 = (0 : Int32) then
      some ((0 : Int64))
    else
      (if ((p1 * (24 : Int32)) + p2) < 0 ∨ 96 ≤ (((p1 * (24 : Int32)) + p2)).toNatClampNeg then none else
        some ((s_items (((p1 * (24 : Int32)) + p2)).toNatClampNeg)))))
def fl_X6_areForces_3 : Nat → (Nat → Int32) → (Nat → Int64) → Int32 → Int32 → Int32 → Int32 → Option (Int32)
  | 0, _, _, _, _, _, _ => none
  | n + 1, s_sizes, s_items, v1, v2, v3, v4 =>
    (if v3 ≤ v4 then
      some ((1 : Int32))
    else
      (match f_X5_get s_sizes s_items v1 (v2 + ((2 : Int32) * v4)) with
      | none => none
      | some q1 =>
        (if (lg_cmp q1 (0 : Int64)) < (0 : Int32) then
          some ((0 : Int32))
        else
          (if (lg_cmp q1 (Int64.ofNat 99)) ≤ (0 : Int32) then
            fl_X6_areForces_3 n s_sizes s_items v1 v2 v3 (v4 + (1 : Int32))
          else
            some ((0 : Int32))))))
def f_X6_areForces (s_sizes : (Nat → Int32)) (s_items : (Nat → Int64)) (p1 : Int32) (p2 : Int32) (p3 : Int32) : Option (Int32) :=
  fl_X6_areForces_3 300 s_sizes s_items p1 p2 p3 (0 : Int32)
def fl_X6_isAsTold_12 : Nat → (Nat → Int32) → (Nat → Int32) → Int32 → (Nat → Int32) → (Nat → Int64) → Int32 → Int32 → Int32 → Int32 → Int32 → Option (Int32)
  | 0, _, _, _, _, _, _, _, _, _, _ => none
  | n + 1, r_t_barred, r_firms, r_tied, s_sizes, s_items, v1, v2, v3, v4, v5 =>
    (if v3 ≤ v5 then
      some ((1 : Int32))
    else
      (match f_X5_get s_sizes s_items v1 (v2 + ((2 : Int32) * v5)) with
      | none => none
      | some q1 =>
        (match f_X4_fallsAmong r_t_barred r_firms v4 (q1).toInt32 with
        | none => none
        | some q2 =>
          (match f_X5_get s_sizes s_items v1 ((v2 + ((2 : Int32) * v5)) + (1 : Int32)) with
          | none => none
          | some q3 =>
            (if (lg_cmp q3 ((f_J6_bitCount q2)).toInt64) = (0 : Int32) then
              fl_X6_isAsTold_12 n r_t_barred r_firms r_tied s_sizes s_items v1 v2 v3 (v4 &&& (q2 ^^^ (-1 : Int32))) (v5 + (1 : Int32))
            else
              some ((0 : Int32)))))))
def f_X6_isAsTold (r_t_barred : (Nat → Int32)) (r_firms : (Nat → Int32)) (r_tied : Int32) (s_sizes : (Nat → Int32)) (s_items : (Nat → Int64)) (p1 : Int32) (p2 : Int32) (p3 : Int32) : Option (Int32) :=
  fl_X6_isAsTold_12 300 r_t_barred r_firms r_tied s_sizes s_items p1 p2 p3 r_tied (0 : Int32)
def fl_X6_kindsFelt_13 : Nat → (Nat → Int32) → (Nat → Int32) → (Nat → Int32) → (Nat → Int32) → Int32 → Int32 → Int32 → (Nat → Int32) → (Nat → Int64) → Int32 → Int32 → Int32 → Int32 → Int32 → Int32 → Option (Int32 × (Nat → Int32))
  | 0, _, _, _, _, _, _, _, _, _, _, _, _, _, _, _ => none
  | n + 1, r_t_kinds, r_t_holds, r_t_barred, r_firms, r_tied, r_wet, r_day, s_sizes, s_items, v1, v2, v3, v4, v5, v6 =>
    (if (5 : Int32) ≤ v6 then
      some (v5, r_firms)
    else
      (if v1 < 0 ∨ 8 ≤ (v1).toNatClampNeg then none else
        (if v1 < 0 ∨ 8 ≤ (v1).toNatClampNeg then none else
          (match f_X6_isAsTold r_t_barred (upd r_firms (v1).toNatClampNeg (f_X4_firmBy r_wet v6 (r_t_holds (v1).toNatClampNeg) r_day)) r_tied s_sizes s_items v2 v3 v4 with
          | none => none
          | some q2 =>
            (if q2 = (0 : Int32) then
              fl_X6_kindsFelt_13 n r_t_kinds r_t_holds r_t_barred (upd r_firms (v1).toNatClampNeg (f_X4_firmBy r_wet v6 (r_t_holds (v1).toNatClampNeg) r_day)) r_tied r_wet r_day s_sizes s_items v1 v2 v3 v4 v5 (v6 + (1 : Int32))
            else
              fl_X6_kindsFelt_13 n r_t_kinds r_t_holds r_t_barred (upd r_firms (v1).toNatClampNeg (f_X4_firmBy r_wet v6 (r_t_holds (v1).toNatClampNeg) r_day)) r_tied r_wet r_day s_sizes s_items v1 v2 v3 v4 (v5 ||| ((1 : Int32) <<< (v6 &&& (31 : Int32)))) (v6 + (1 : Int32)))))))
def f_X6_kindsFelt (r_t_kinds : (Nat → Int32)) (r_t_holds : (Nat → Int32)) (r_t_barred : (Nat → Int32)) (r_firms : (Nat → Int32)) (r_tied : Int32) (r_wet : Int32) (r_day : Int32) (s_sizes : (Nat → Int32)) (s_items : (Nat → Int64)) (p1 : Int32) (p2 : Int32) (p3 : Int32) (p4 : Int32) : Option (Int32 × (Nat → Int32)) :=
  (match f_X4_weigh r_t_kinds r_t_holds r_firms r_wet r_day with
  | none => none
  | some q1 =>
    fl_X6_kindsFelt_13 300 r_t_kinds r_t_holds r_t_barred q1 r_tied r_wet r_day s_sizes s_items p1 p2 p3 p4 (0 : Int32) (0 : Int32))
def fl_X6_holdsFelt_13 : Nat → (Nat → Int32) → (Nat → Int32) → (Nat → Int32) → (Nat → Int32) → Int32 → Int32 → Int32 → (Nat → Int32) → (Nat → Int64) → Int32 → Int32 → Int32 → Int32 → Int32 → Int32 → Option (Int32 × (Nat → Int32))
  | 0, _, _, _, _, _, _, _, _, _, _, _, _, _, _, _ => none
  | n + 1, r_t_kinds, r_t_holds, r_t_barred, r_firms, r_tied, r_wet, r_day, s_sizes, s_items, v1, v2, v3, v4, v5, v6 =>
    (if (20 : Int32) < v6 then
      some (v5, r_firms)
    else
      (if v1 < 0 ∨ 8 ≤ (v1).toNatClampNeg then none else
        (if v1 < 0 ∨ 8 ≤ (v1).toNatClampNeg then none else
          (match f_X6_isAsTold r_t_barred (upd r_firms (v1).toNatClampNeg (f_X4_firmBy r_wet (r_t_kinds (v1).toNatClampNeg) v6 r_day)) r_tied s_sizes s_items v2 v3 v4 with
          | none => none
          | some q2 =>
            (if q2 = (0 : Int32) then
              fl_X6_holdsFelt_13 n r_t_kinds r_t_holds r_t_barred (upd r_firms (v1).toNatClampNeg (f_X4_firmBy r_wet (r_t_kinds (v1).toNatClampNeg) v6 r_day)) r_tied r_wet r_day s_sizes s_items v1 v2 v3 v4 v5 (v6 + (1 : Int32))
            else
              fl_X6_holdsFelt_13 n r_t_kinds r_t_holds r_t_barred (upd r_firms (v1).toNatClampNeg (f_X4_firmBy r_wet (r_t_kinds (v1).toNatClampNeg) v6 r_day)) r_tied r_wet r_day s_sizes s_items v1 v2 v3 v4 (v5 ||| ((1 : Int32) <<< (v6 &&& (31 : Int32)))) (v6 + (1 : Int32)))))))
def f_X6_holdsFelt (r_t_kinds : (Nat → Int32)) (r_t_holds : (Nat → Int32)) (r_t_barred : (Nat → Int32)) (r_firms : (Nat → Int32)) (r_tied : Int32) (r_wet : Int32) (r_day : Int32) (s_sizes : (Nat → Int32)) (s_items : (Nat → Int64)) (p1 : Int32) (p2 : Int32) (p3 : Int32) (p4 : Int32) : Option (Int32 × (Nat → Int32)) :=
  (match f_X4_weigh r_t_kinds r_t_holds r_firms r_wet r_day with
  | none => none
  | some q1 =>
    fl_X6_holdsFelt_13 300 r_t_kinds r_t_holds r_t_barred q1 r_tied r_wet r_day s_sizes s_items p1 p2 p3 p4 (0 : Int32) (1 : Int32))
def f_X6_felt (r_t_kinds : (Nat → Int32)) (r_t_holds : (Nat → Int32)) (r_t_barred : (Nat → Int32)) (r_t_size : Int32) (r_firms : (Nat → Int32)) (r_tied : Int32) (r_wet : Int32) (r_day : Int32) (s_lanes : (Nat → Int32)) (s_sizes : (Nat → Int32)) (s_items : (Nat → Int64)) (p1 : Int32) (p2 : Int32) (p3 : Int32) (p4 : Int32) (p5 : Int32) (p6 : Int32) : Option (Int32 × (Nat → Int32)) :=
  (if (f_X6_isClause r_t_size p1) = (0 : Int32) then
    some ((-1 : Int32), r_firms)
  else
    (if (f_X6_isSheet p2) = (0 : Int32) then
      some ((-1 : Int32), r_firms)
    else
      (if (f_X6_isLane p3) = (0 : Int32) then
        some ((-1 : Int32), r_firms)
      else
        (if (f_X6_isWithin p5 (1 : Int32) (6 : Int32)) = (0 : Int32) then
          some ((-1 : Int32), r_firms)
        else
          (if (f_X6_isWithin p6 (0 : Int32) (1 : Int32)) = (0 : Int32) then
            some ((-1 : Int32), r_firms)
          else
            (match f_X5_faultOf s_lanes s_sizes p2 p3 p4 ((2 : Int32) * p5) with
            | none => none
            | some q1 =>
              (if q1 = (0 : Int32) then
                (match f_X6_areForces s_sizes s_items p2 p4 p5 with
                | none => none
                | some q2 =>
                  (if q2 = (0 : Int32) then
                    some ((-2 : Int32), r_firms)
                  else
                    (if p6 = (0 : Int32) then
                      (match f_X6_kindsFelt r_t_kinds r_t_holds r_t_barred r_firms r_tied r_wet r_day s_sizes s_items p1 p2 p4 p5 with
                      | none => none
                      | some q3 =>
                        some (q3.1, q3.2))
                    else
                      (match f_X6_holdsFelt r_t_kinds r_t_holds r_t_barred r_firms r_tied r_wet r_day s_sizes s_items p1 p2 p4 p5 with
                      | none => none
                      | some q4 =>
                        some (q4.1, q4.2)))))
              else
                some (q1, r_firms))))))))
def f_X7_isSheet (p0 : Int32) : Int32 :=
  (f_X7_in p0 (0 : Int32) (3 : Int32))
def f_X7_isPart (p0 : Int32) (p1 : Int32) (p2 : Int32) : Int32 :=
  (if p1 < (0 : Int32) then
    (0 : Int32)
  else
    (if p0 < (0 : Int32) then
      (0 : Int32)
    else
      (if p2 < p1 then
        (0 : Int32)
      else
        (if (p2 - p1) < p0 then
          (0 : Int32)
        else
          (1 : Int32)))))
def f_X7_wrong (m_lane : (Nat → Int32)) (m_size : (Nat → Int32)) (p1 : Int32) (p2 : Int32) (p3 : Int32) (p4 : Int32) : Option (Int32) :=
  (if p1 < 0 ∨ 4 ≤ (p1).toNatClampNeg then none else
    (if (0 : Int32) ≤ (m_lane (p1).toNatClampNeg) then
      (if p1 < 0 ∨ 4 ≤ (p1).toNatClampNeg then none else
        (if (m_lane (p1).toNatClampNeg) = p2 then
          (if p1 < 0 ∨ 4 ≤ (p1).toNatClampNeg then none else
            (if (f_X7_isPart p3 p4 (m_size (p1).toNatClampNeg)) = (0 : Int32) then
              some ((-13 : Int32))
            else
              some ((0 : Int32))))
        else
          some ((-12 : Int32))))
    else
      some ((-11 : Int32))))
def fl_X7_felt_177 (ko_130 : (Nat → Int32) → (Nat → Int32) → (Nat → Int64) → (Nat → Int32) → (Nat → Int32) → Int32 → Int32 → Int32 → Int32 → Int32 → Int32 → Int32 → Option (Int32 × (Nat → Int32))) : Nat → (Nat → Int32) → (Nat → Int32) → (Nat → Int64) → (Nat → Int32) → (Nat → Int32) → Int32 → Int32 → Int32 → Int32 → Int32 → Int32 → Int32 → Int32 → Int32 → Option (Int32 × (Nat → Int32))
  | 0, _, _, _, _, _, _, _, _, _, _, _, _, _, _ => none
  | n + 1, m_lane, m_size, m_item, m_now, m_tried, v1, v2, v4, v5, v6, v8, v9, v10, v11 =>
    (if v5 ≤ v11 then
      (if v10 = (0 : Int32) then
        ko_130 m_lane m_size m_item m_now m_tried v1 v2 v4 v5 v6 (v8 ||| (0 : Int32)) (v9 + (1 : Int32))
      else
        ko_130 m_lane m_size m_item m_now m_tried v1 v2 v4 v5 v6 (v8 ||| ((1 : Int32) <<< (v9 &&& (31 : Int32)))) (v9 + (1 : Int32)))
    else
      (if ((((24 : Int32) * v2) + v4) + ((2 : Int32) * v11)) < 0 ∨ 96 ≤ (((((24 : Int32) * v2) + v4) + ((2 : Int32) * v11))).toNatClampNeg then none else
        (if v10 = (0 : Int32) then
          fl_X7_felt_177 ko_130 n m_lane m_size m_item m_now m_tried v1 v2 v4 v5 v6 v8 v9 (0 : Int32) (v11 + (1 : Int32))
        else
          (match f_X7_pullIn_1 m_tried ((m_item (((((24 : Int32) * v2) + v4) + ((2 : Int32) * v11))).toNatClampNeg)).toInt32 with
          | none => none
          | some q3 =>
            (match f_X7_bits q3.1 with
            | none => none
            | some q4 =>
              (if (((((24 : Int32) * v2) + v4) + ((2 : Int32) * v11)) + (1 : Int32)) < 0 ∨ 96 ≤ ((((((24 : Int32) * v2) + v4) + ((2 : Int32) * v11)) + (1 : Int32))).toNatClampNeg then none else
                (if (lg_cmp (q4).toInt64 (m_item ((((((24 : Int32) * v2) + v4) + ((2 : Int32) * v11)) + (1 : Int32))).toNatClampNeg)) = (0 : Int32) then
                  fl_X7_felt_177 ko_130 n m_lane m_size m_item m_now q3.2 v1 v2 v4 v5 v6 v8 v9 (1 : Int32) (v11 + (1 : Int32))
                else
                  fl_X7_felt_177 ko_130 n m_lane m_size m_item m_now q3.2 v1 v2 v4 v5 v6 v8 v9 (0 : Int32) (v11 + (1 : Int32)))))))))
def fl_X7_felt_130 : Nat → (Nat → Int32) → (Nat → Int32) → (Nat → Int64) → (Nat → Int32) → (Nat → Int32) → Int32 → Int32 → Int32 → Int32 → Int32 → Int32 → Int32 → Option (Int32 × (Nat → Int32))
  | 0, _, _, _, _, _, _, _, _, _, _, _, _ => none
  | n + 1, m_lane, m_size, m_item, m_now, m_tried, v1, v2, v4, v5, v6, v8, v9 =>
    (if v6 = (0 : Int32) then
      (if (5 : Int32) ≤ v9 then
        some (v8, m_tried)
      else
        (match f_X7_begin m_now m_tried with
        | none => none
        | some q2 =>
          (if v6 = (0 : Int32) then
            (if ((6 : Int32) + v1) < 0 ∨ 79 ≤ (((6 : Int32) + v1)).toNatClampNeg then none else
              fl_X7_felt_177 (fl_X7_felt_130 n) 300 m_lane m_size m_item m_now (upd q2 (((6 : Int32) + v1)).toNatClampNeg v9) v1 v2 v4 v5 v6 v8 v9 (1 : Int32) (0 : Int32))
          else
            (if ((14 : Int32) + v1) < 0 ∨ 79 ≤ (((14 : Int32) + v1)).toNatClampNeg then none else
              fl_X7_felt_177 (fl_X7_felt_130 n) 300 m_lane m_size m_item m_now (upd q2 (((14 : Int32) + v1)).toNatClampNeg v9) v1 v2 v4 v5 v6 v8 v9 (1 : Int32) (0 : Int32)))))
    else
      (if (21 : Int32) ≤ v9 then
        some (v8, m_tried)
      else
        (match f_X7_begin m_now m_tried with
        | none => none
        | some q5 =>
          (if v6 = (0 : Int32) then
            (if ((6 : Int32) + v1) < 0 ∨ 79 ≤ (((6 : Int32) + v1)).toNatClampNeg then none else
              fl_X7_felt_177 (fl_X7_felt_130 n) 300 m_lane m_size m_item m_now (upd q5 (((6 : Int32) + v1)).toNatClampNeg v9) v1 v2 v4 v5 v6 v8 v9 (1 : Int32) (0 : Int32))
          else
            (if ((14 : Int32) + v1) < 0 ∨ 79 ≤ (((14 : Int32) + v1)).toNatClampNeg then none else
              fl_X7_felt_177 (fl_X7_felt_130 n) 300 m_lane m_size m_item m_now (upd q5 (((14 : Int32) + v1)).toNatClampNeg v9) v1 v2 v4 v5 v6 v8 v9 (1 : Int32) (0 : Int32))))))
def fl_X7_felt_72 : Nat → (Nat → Int32) → (Nat → Int32) → (Nat → Int64) → (Nat → Int32) → (Nat → Int32) → Int32 → Int32 → Int32 → Int32 → Int32 → Int32 → Option (Int32 × (Nat → Int32))
  | 0, _, _, _, _, _, _, _, _, _, _, _ => none
  | n + 1, m_lane, m_size, m_item, m_now, m_tried, v1, v2, v4, v5, v6, v8 =>
    (if v5 ≤ v8 then
      fl_X7_felt_130 300 m_lane m_size m_item m_now m_tried v1 v2 v4 v5 v6 (0 : Int32) v6
    else
      (if ((((24 : Int32) * v2) + v4) + ((2 : Int32) * v8)) < 0 ∨ 96 ≤ (((((24 : Int32) * v2) + v4) + ((2 : Int32) * v8))).toNatClampNeg then none else
        (if (lg_cmp (m_item (((((24 : Int32) * v2) + v4) + ((2 : Int32) * v8))).toNatClampNeg) (0 : Int64)) < (0 : Int32) then
          some ((-2 : Int32), m_tried)
        else
          (if (lg_cmp (m_item (((((24 : Int32) * v2) + v4) + ((2 : Int32) * v8))).toNatClampNeg) (Int64.ofNat 99)) ≤ (0 : Int32) then
            fl_X7_felt_72 n m_lane m_size m_item m_now m_tried v1 v2 v4 v5 v6 (v8 + (1 : Int32))
          else
            some ((-2 : Int32), m_tried)))))
def f_X7_felt (m_lane : (Nat → Int32)) (m_size : (Nat → Int32)) (m_item : (Nat → Int64)) (m_now : (Nat → Int32)) (m_tried : (Nat → Int32)) (p1 : Int32) (p2 : Int32) (p3 : Int32) (p4 : Int32) (p5 : Int32) (p6 : Int32) : Option (Int32 × (Nat → Int32)) :=
  (if (f_X7_isClause m_now p1) = (0 : Int32) then
    some ((-1 : Int32), m_tried)
  else
    (if (f_X7_isSheet p2) = (0 : Int32) then
      some ((-1 : Int32), m_tried)
    else
      (if (f_X7_in p3 (0 : Int32) (3 : Int32)) = (0 : Int32) then
        some ((-1 : Int32), m_tried)
      else
        (if (f_X7_in p5 (1 : Int32) (6 : Int32)) = (0 : Int32) then
          some ((-1 : Int32), m_tried)
        else
          (if (f_X7_in p6 (0 : Int32) (1 : Int32)) = (0 : Int32) then
            some ((-1 : Int32), m_tried)
          else
            (match f_X7_wrong m_lane m_size p2 p3 p4 ((2 : Int32) * p5) with
            | none => none
            | some q1 =>
              (if q1 = (0 : Int32) then
                fl_X7_felt_72 300 m_lane m_size m_item m_now m_tried p1 p2 p4 p5 p6 (0 : Int32)
              else
                some (q1, m_tried))))))))
def f_X5_lowestBits (p0 : Int32) (p1 : Int64) : Int64 :=
  (if p0 = (0 : Int32) then
    (((p1).toInt32).toInt8.toInt32).toInt64
  else
  (if p0 = (1 : Int32) then
    (((p1).toInt32).toInt16.toInt32).toInt64
  else
  (if p0 = (2 : Int32) then
    ((p1).toInt32).toInt64
  else
    p1)))
def f_X5_put (s_lanes : (Nat → Int32)) (s_sizes : (Nat → Int32)) (s_items : (Nat → Int64)) (p1 : Int32) (p2 : Int32) (p3 : Int64) : Option ((Nat → Int64)) :=
  (match f_X5_isInside s_sizes p1 p2 (1 : Int32) with
  | none => none
  | some q1 =>
    (if q1 = (0 : Int32) then
      some (s_items)
    else
      (if p1 < 0 ∨ 4 ≤ (p1).toNatClampNeg then none else
        (if ((p1 * (24 : Int32)) + p2) < 0 ∨ 96 ≤ (((p1 * (24 : Int32)) + p2)).toNatClampNeg then none else
          some ((vp_updL s_items (((p1 * (24 : Int32)) + p2)).toNatClampNeg (f_X5_lowestBits (s_lanes (p1).toNatClampNeg) p3)))))))
def fl_X6_film_76 : Nat → (Nat → Int32) → (Nat → Int32) → (Nat → Int32) → (Nat → Int32) → Int32 → Int32 → Int32 → (Nat → Int32) → (Nat → Int32) → (Nat → Int64) → Int32 → Int32 → Int32 → Int32 → Int32 → Int32 → Option (Int32 × (Nat → Int32) × (Nat → Int64))
  | 0, _, _, _, _, _, _, _, _, _, _, _, _, _, _, _, _ => none
  | n + 1, r_t_kinds, r_t_holds, r_t_barred, r_firms, r_tied, r_wet, r_day, s_lanes, s_sizes, s_items, v1, v2, v3, v5, v7, v8 =>
    (if v2 ≤ v8 then
      some (v2, r_firms, s_items)
    else
      (match f_X4_fallsAmong r_t_barred r_firms v7 v1 with
      | none => none
      | some q3 =>
        (match f_X5_put s_lanes s_sizes s_items v3 (v5 + v8) ((f_J6_bitCount (v7 &&& (q3 ^^^ (-1 : Int32))))).toInt64 with
        | none => none
        | some q4 =>
          fl_X6_film_76 n r_t_kinds r_t_holds r_t_barred r_firms r_tied r_wet r_day s_lanes s_sizes q4 v1 v2 v3 v5 (v7 &&& (q3 ^^^ (-1 : Int32))) (v8 + (1 : Int32)))))
def f_X6_film (r_t_kinds : (Nat → Int32)) (r_t_holds : (Nat → Int32)) (r_t_barred : (Nat → Int32)) (r_firms : (Nat → Int32)) (r_tied : Int32) (r_wet : Int32) (r_day : Int32) (s_lanes : (Nat → Int32)) (s_sizes : (Nat → Int32)) (s_items : (Nat → Int64)) (p1 : Int32) (p2 : Int32) (p3 : Int32) (p4 : Int32) (p5 : Int32) : Option (Int32 × (Nat → Int32) × (Nat → Int64)) :=
  (if (f_X6_isForce p1) = (0 : Int32) then
    some ((-1 : Int32), r_firms, s_items)
  else
    (if (f_X6_isWithin p2 (1 : Int32) (24 : Int32)) = (0 : Int32) then
      some ((-1 : Int32), r_firms, s_items)
    else
      (if (f_X6_isSheet p3) = (0 : Int32) then
        some ((-1 : Int32), r_firms, s_items)
      else
        (if (f_X6_isLane p4) = (0 : Int32) then
          some ((-1 : Int32), r_firms, s_items)
        else
          (match f_X5_faultOf s_lanes s_sizes p3 p4 p5 p2 with
          | none => none
          | some q1 =>
            (if q1 = (0 : Int32) then
              (match f_X4_weigh r_t_kinds r_t_holds r_firms r_wet r_day with
              | none => none
              | some q2 =>
                fl_X6_film_76 300 r_t_kinds r_t_holds r_t_barred q2 r_tied r_wet r_day s_lanes s_sizes s_items p1 p2 p3 p5 r_tied (0 : Int32))
            else
              some (q1, r_firms, s_items)))))))
def fl_X7_film_66 : Nat → (Nat → Int32) → (Nat → Int32) → (Nat → Int64) → (Nat → Int32) → (Nat → Int32) → Int32 → Int32 → Int32 → Int32 → Int32 → Option (Int32 × (Nat → Int64) × (Nat → Int32))
  | 0, _, _, _, _, _, _, _, _, _, _ => none
  | n + 1, m_lane, m_size, m_item, m_now, m_tried, v1, v2, v3, v5, v7 =>
    (if v2 ≤ v7 then
      some (v2, m_item, m_tried)
    else
      (match f_X7_pullIn_1 m_tried v1 with
      | none => none
      | some q3 =>
        (match f_X7_bits (q3.2 2) with
        | none => none
        | some q4 =>
          (if ((((24 : Int32) * v3) + v5) + v7) < 0 ∨ 96 ≤ (((((24 : Int32) * v3) + v5) + v7)).toNatClampNeg then none else
            fl_X7_film_66 n m_lane m_size (vp_updL m_item (((((24 : Int32) * v3) + v5) + v7)).toNatClampNeg (q4).toInt64) m_now q3.2 v1 v2 v3 v5 (v7 + (1 : Int32))))))
def f_X7_film (m_lane : (Nat → Int32)) (m_size : (Nat → Int32)) (m_item : (Nat → Int64)) (m_now : (Nat → Int32)) (m_tried : (Nat → Int32)) (p1 : Int32) (p2 : Int32) (p3 : Int32) (p4 : Int32) (p5 : Int32) : Option (Int32 × (Nat → Int64) × (Nat → Int32)) :=
  (if (f_X7_in p1 (0 : Int32) (99 : Int32)) = (0 : Int32) then
    some ((-1 : Int32), m_item, m_tried)
  else
    (if (f_X7_in p2 (1 : Int32) (24 : Int32)) = (0 : Int32) then
      some ((-1 : Int32), m_item, m_tried)
    else
      (if (f_X7_isSheet p3) = (0 : Int32) then
        some ((-1 : Int32), m_item, m_tried)
      else
        (if (f_X7_in p4 (0 : Int32) (3 : Int32)) = (0 : Int32) then
          some ((-1 : Int32), m_item, m_tried)
        else
          (match f_X7_wrong m_lane m_size p3 p4 p5 p2 with
          | none => none
          | some q1 =>
            (if q1 = (0 : Int32) then
              (match f_X7_begin m_now m_tried with
              | none => none
              | some q2 =>
                fl_X7_film_66 300 m_lane m_size m_item m_now q2 p1 p2 p3 p5 (0 : Int32))
            else
              some (q1, m_item, m_tried)))))))
def fl_X5_lay_17 : Nat → (Nat → Int32) → (Nat → Int32) → (Nat → Int64) → Int32 → Int32 → Int32 → Option ((Nat → Int32) × (Nat → Int32) × (Nat → Int64))
  | 0, _, _, _, _, _, _ => none
  | n + 1, s_lanes, s_sizes, s_items, v1, v3, v4 =>
    (if v3 ≤ v4 then
      some (s_lanes, s_sizes, s_items)
    else
      (match f_X5_put s_lanes s_sizes s_items v1 v4 (0 : Int64) with
      | none => none
      | some q1 =>
        fl_X5_lay_17 n s_lanes s_sizes q1 v1 v3 (v4 + (1 : Int32))))
def f_X5_lay (s_lanes : (Nat → Int32)) (s_sizes : (Nat → Int32)) (s_items : (Nat → Int64)) (p1 : Int32) (p2 : Int32) (p3 : Int32) : Option ((Nat → Int32) × (Nat → Int32) × (Nat → Int64)) :=
  (if p1 < 0 ∨ 4 ≤ (p1).toNatClampNeg then none else
    (if p1 < 0 ∨ 4 ≤ (p1).toNatClampNeg then none else
      fl_X5_lay_17 300 (upd s_lanes (p1).toNatClampNeg p2) (upd s_sizes (p1).toNatClampNeg p3) s_items p1 p3 (0 : Int32)))
def f_X6_sheet (s_lanes : (Nat → Int32)) (s_sizes : (Nat → Int32)) (s_items : (Nat → Int64)) (p1 : Int32) (p2 : Int32) (p3 : Int32) : Option (Int32 × (Nat → Int32) × (Nat → Int32) × (Nat → Int64)) :=
  (if (f_X6_isSheet p1) = (0 : Int32) then
    some ((-1 : Int32), s_lanes, s_sizes, s_items)
  else
    (if (f_X6_isLane p2) = (0 : Int32) then
      some ((-1 : Int32), s_lanes, s_sizes, s_items)
    else
      (if p3 ≤ (24 : Int32) then
        (if (0 : Int32) ≤ p3 then
          (match f_X5_lay s_lanes s_sizes s_items p1 p2 p3 with
          | none => none
          | some q1 =>
            some (p3, q1.1, q1.2.1, q1.2.2))
        else
          some ((-14 : Int32), s_lanes, s_sizes, s_items))
      else
        some ((-1 : Int32), s_lanes, s_sizes, s_items))))
def fl_X7_sheet_48 : Nat → (Nat → Int32) → (Nat → Int32) → (Nat → Int64) → Int32 → Int32 → Int32 → Option (Int32 × (Nat → Int32) × (Nat → Int32) × (Nat → Int64))
  | 0, _, _, _, _, _, _ => none
  | n + 1, m_lane, m_size, m_item, v1, v3, v4 =>
    (if (24 : Int32) ≤ v4 then
      some (v3, m_lane, m_size, m_item)
    else
      (if (((24 : Int32) * v1) + v4) < 0 ∨ 96 ≤ ((((24 : Int32) * v1) + v4)).toNatClampNeg then none else
        fl_X7_sheet_48 n m_lane m_size (vp_updL m_item ((((24 : Int32) * v1) + v4)).toNatClampNeg (0 : Int64)) v1 v3 (v4 + (1 : Int32))))
def f_X7_sheet (m_lane : (Nat → Int32)) (m_size : (Nat → Int32)) (m_item : (Nat → Int64)) (p1 : Int32) (p2 : Int32) (p3 : Int32) : Option (Int32 × (Nat → Int32) × (Nat → Int32) × (Nat → Int64)) :=
  (if (f_X7_isSheet p1) = (0 : Int32) then
    some ((-1 : Int32), m_lane, m_size, m_item)
  else
    (if (f_X7_in p2 (0 : Int32) (3 : Int32)) = (0 : Int32) then
      some ((-1 : Int32), m_lane, m_size, m_item)
    else
      (if p3 ≤ (24 : Int32) then
        (if (0 : Int32) ≤ p3 then
          (if p1 < 0 ∨ 4 ≤ (p1).toNatClampNeg then none else
            (if p1 < 0 ∨ 4 ≤ (p1).toNatClampNeg then none else
              fl_X7_sheet_48 300 (upd m_lane (p1).toNatClampNeg p2) (upd m_size (p1).toNatClampNeg p3) m_item p1 p3 (0 : Int32)))
        else
          some ((-14 : Int32), m_lane, m_size, m_item))
      else
        some ((-1 : Int32), m_lane, m_size, m_item))))
def f_X5_takeAway (s_lanes : (Nat → Int32)) (s_sizes : (Nat → Int32)) (p1 : Int32) : Option (Int32 × (Nat → Int32)) :=
  (if p1 < 0 ∨ 4 ≤ (p1).toNatClampNeg then none else
    (if (s_lanes (p1).toNatClampNeg) = (-1 : Int32) then
      some ((-11 : Int32), s_lanes)
    else
      (if p1 < 0 ∨ 4 ≤ (p1).toNatClampNeg then none else
        (if p1 < 0 ∨ 4 ≤ (p1).toNatClampNeg then none else
          some ((s_sizes (p1).toNatClampNeg), (upd s_lanes (p1).toNatClampNeg (-1 : Int32)))))))
def f_X6_drop (s_lanes : (Nat → Int32)) (s_sizes : (Nat → Int32)) (p1 : Int32) : Option (Int32 × (Nat → Int32)) :=
  (if (f_X6_isSheet p1) = (0 : Int32) then
    some ((-1 : Int32), s_lanes)
  else
    (match f_X5_takeAway s_lanes s_sizes p1 with
    | none => none
    | some q1 =>
      some (q1.1, q1.2)))
def f_X7_drop (m_lane : (Nat → Int32)) (m_size : (Nat → Int32)) (p1 : Int32) : Option (Int32 × (Nat → Int32)) :=
  (if (f_X7_isSheet p1) = (0 : Int32) then
    some ((-1 : Int32), m_lane)
  else
    (if p1 < 0 ∨ 4 ≤ (p1).toNatClampNeg then none else
      (if (0 : Int32) ≤ (m_lane (p1).toNatClampNeg) then
        (if p1 < 0 ∨ 4 ≤ (p1).toNatClampNeg then none else
          (if p1 < 0 ∨ 4 ≤ (p1).toNatClampNeg then none else
            some ((m_size (p1).toNatClampNeg), (upd m_lane (p1).toNatClampNeg (-1 : Int32)))))
      else
        some ((-11 : Int32), m_lane))))
def f_X6_item (s_lanes : (Nat → Int32)) (s_sizes : (Nat → Int32)) (s_items : (Nat → Int64)) (p1 : Int32) (p2 : Int32) (p3 : Int32) (p4 : Int64) : Option (Int32 × (Nat → Int64)) :=
  (if (f_X6_isSheet p1) = (0 : Int32) then
    some ((-1 : Int32), s_items)
  else
    (if (f_X6_isLane p2) = (0 : Int32) then
      some ((-1 : Int32), s_items)
    else
      (match f_X5_faultOf s_lanes s_sizes p1 p2 p3 (1 : Int32) with
      | none => none
      | some q1 =>
        (if q1 = (0 : Int32) then
          (match f_X5_put s_lanes s_sizes s_items p1 p3 p4 with
          | none => none
          | some q2 =>
            some ((1 : Int32), q2))
        else
          some (q1, s_items)))))
def f_X7_item (m_lane : (Nat → Int32)) (m_size : (Nat → Int32)) (m_item : (Nat → Int64)) (p1 : Int32) (p2 : Int32) (p3 : Int32) (p4 : Int64) : Option (Int32 × (Nat → Int64)) :=
  (if (f_X7_isSheet p1) = (0 : Int32) then
    some ((-1 : Int32), m_item)
  else
    (if (f_X7_in p2 (0 : Int32) (3 : Int32)) = (0 : Int32) then
      some ((-1 : Int32), m_item)
    else
      (match f_X7_wrong m_lane m_size p1 p2 p3 (1 : Int32) with
      | none => none
      | some q1 =>
        (if q1 = (0 : Int32) then
          (if p2 = (0 : Int32) then
            (if (((24 : Int32) * p1) + p3) < 0 ∨ 96 ≤ ((((24 : Int32) * p1) + p3)).toNatClampNeg then none else
              some ((1 : Int32), (vp_updL m_item ((((24 : Int32) * p1) + p3)).toNatClampNeg (((p4).toInt32).toInt8.toInt32).toInt64)))
          else
            (if p2 = (1 : Int32) then
              (if (((24 : Int32) * p1) + p3) < 0 ∨ 96 ≤ ((((24 : Int32) * p1) + p3)).toNatClampNeg then none else
                some ((1 : Int32), (vp_updL m_item ((((24 : Int32) * p1) + p3)).toNatClampNeg (((p4).toInt32).toInt16.toInt32).toInt64)))
            else
              (if p2 = (2 : Int32) then
                (if (((24 : Int32) * p1) + p3) < 0 ∨ 96 ≤ ((((24 : Int32) * p1) + p3)).toNatClampNeg then none else
                  some ((1 : Int32), (vp_updL m_item ((((24 : Int32) * p1) + p3)).toNatClampNeg ((p4).toInt32).toInt64)))
              else
                (if (((24 : Int32) * p1) + p3) < 0 ∨ 96 ≤ ((((24 : Int32) * p1) + p3)).toNatClampNeg then none else
                  some ((1 : Int32), (vp_updL m_item ((((24 : Int32) * p1) + p3)).toNatClampNeg p4))))))
        else
          some (q1, m_item)))))
def f_X5_carry (s_lanes : (Nat → Int32)) (s_sizes : (Nat → Int32)) (s_items : (Nat → Int64)) (p1 : Int32) (p2 : Int32) (p3 : Int32) (p4 : Int32) (p5 : Int32) : Option (Int32 × (Nat → Int64)) :=
  (if p1 < 0 ∨ 4 ≤ (p1).toNatClampNeg then none else
    (if (s_lanes (p1).toNatClampNeg) = (-1 : Int32) then
      some ((-11 : Int32), s_items)
    else
      (if p3 < 0 ∨ 4 ≤ (p3).toNatClampNeg then none else
        (if (s_lanes (p3).toNatClampNeg) = (-1 : Int32) then
          some ((-11 : Int32), s_items)
        else
          (if p1 < 0 ∨ 4 ≤ (p1).toNatClampNeg then none else
            (if p3 < 0 ∨ 4 ≤ (p3).toNatClampNeg then none else
              (if (s_lanes (p1).toNatClampNeg) = (s_lanes (p3).toNatClampNeg) then
                (match f_X5_isInside s_sizes p1 p2 p5 with
                | none => none
                | some q1 =>
                  (if q1 = (0 : Int32) then
                    some ((-13 : Int32), s_items)
                  else
                    (match f_X5_isInside s_sizes p3 p4 p5 with
                    | none => none
                    | some q2 =>
                      (if q2 = (0 : Int32) then
                        some ((-13 : Int32), s_items)
                      else
                        (if ((p1 * (24 : Int32)) + p2) < 0 ∨ ((p3 * (24 : Int32)) + p4) < 0 ∨ p5 < 0 ∨ 96 < (((p1 * (24 : Int32)) + p2)).toNatClampNeg + (p5).toNatClampNeg ∨ 96 < (((p3 * (24 : Int32)) + p4)).toNatClampNeg + (p5).toNatClampNeg then none else
                          some (p5, (va_cpy s_items s_items (((p1 * (24 : Int32)) + p2)).toNatClampNeg (((p3 * (24 : Int32)) + p4)).toNatClampNeg (p5).toNatClampNeg)))))))
              else
                some ((-12 : Int32), s_items))))))))
def f_X6_copy (s_lanes : (Nat → Int32)) (s_sizes : (Nat → Int32)) (s_items : (Nat → Int64)) (p1 : Int32) (p2 : Int32) (p3 : Int32) (p4 : Int32) (p5 : Int32) : Option (Int32 × (Nat → Int64)) :=
  (if (f_X6_isSheet p1) = (0 : Int32) then
    some ((-1 : Int32), s_items)
  else
    (if (f_X6_isSheet p3) = (0 : Int32) then
      some ((-1 : Int32), s_items)
    else
      (match f_X5_carry s_lanes s_sizes s_items p1 p2 p3 p4 p5 with
      | none => none
      | some q1 =>
        some (q1.1, q1.2))))
def fl_X7_copy_110 : Nat → (Nat → Int32) → (Nat → Int32) → (Nat → Int64) → Int32 → Int32 → Int32 → Int32 → Int32 → Int32 → Int32 → Option (Int32 × (Nat → Int64))
  | 0, _, _, _, _, _, _, _, _, _, _ => none
  | n + 1, m_lane, m_size, m_item, v1, v2, v3, v4, v5, v6, v7 =>
    (if v5 ≤ v7 then
      some (v5, m_item)
    else
      (if v6 = (0 : Int32) then
        (if ((((24 : Int32) * v1) + v2) + v7) < 0 ∨ 96 ≤ (((((24 : Int32) * v1) + v2) + v7)).toNatClampNeg then none else
          (if ((((24 : Int32) * v3) + v4) + v7) < 0 ∨ 96 ≤ (((((24 : Int32) * v3) + v4) + v7)).toNatClampNeg then none else
            fl_X7_copy_110 n m_lane m_size (vp_updL m_item (((((24 : Int32) * v3) + v4) + v7)).toNatClampNeg (m_item (((((24 : Int32) * v1) + v2) + v7)).toNatClampNeg)) v1 v2 v3 v4 v5 v6 (v7 + (1 : Int32))))
      else
        (if ((((24 : Int32) * v1) + v2) + ((v5 - (1 : Int32)) - v7)) < 0 ∨ 96 ≤ (((((24 : Int32) * v1) + v2) + ((v5 - (1 : Int32)) - v7))).toNatClampNeg then none else
          (if ((((24 : Int32) * v3) + v4) + ((v5 - (1 : Int32)) - v7)) < 0 ∨ 96 ≤ (((((24 : Int32) * v3) + v4) + ((v5 - (1 : Int32)) - v7))).toNatClampNeg then none else
            fl_X7_copy_110 n m_lane m_size (vp_updL m_item (((((24 : Int32) * v3) + v4) + ((v5 - (1 : Int32)) - v7))).toNatClampNeg (m_item (((((24 : Int32) * v1) + v2) + ((v5 - (1 : Int32)) - v7))).toNatClampNeg)) v1 v2 v3 v4 v5 v6 (v7 + (1 : Int32))))))
def f_X7_copy (m_lane : (Nat → Int32)) (m_size : (Nat → Int32)) (m_item : (Nat → Int64)) (p1 : Int32) (p2 : Int32) (p3 : Int32) (p4 : Int32) (p5 : Int32) : Option (Int32 × (Nat → Int64)) :=
  (if (f_X7_isSheet p1) = (0 : Int32) then
    some ((-1 : Int32), m_item)
  else
    (if (f_X7_isSheet p3) = (0 : Int32) then
      some ((-1 : Int32), m_item)
    else
      (if p1 < 0 ∨ 4 ≤ (p1).toNatClampNeg then none else
        (if (m_lane (p1).toNatClampNeg) < (0 : Int32) then
          some ((-11 : Int32), m_item)
        else
          (if p3 < 0 ∨ 4 ≤ (p3).toNatClampNeg then none else
            (if (0 : Int32) ≤ (m_lane (p3).toNatClampNeg) then
              (if p1 < 0 ∨ 4 ≤ (p1).toNatClampNeg then none else
                (if p3 < 0 ∨ 4 ≤ (p3).toNatClampNeg then none else
                  (if (m_lane (p1).toNatClampNeg) = (m_lane (p3).toNatClampNeg) then
                    (if p1 < 0 ∨ 4 ≤ (p1).toNatClampNeg then none else
                      (if (f_X7_isPart p2 p5 (m_size (p1).toNatClampNeg)) = (0 : Int32) then
                        some ((-13 : Int32), m_item)
                      else
                        (if p3 < 0 ∨ 4 ≤ (p3).toNatClampNeg then none else
                          (if (f_X7_isPart p4 p5 (m_size (p3).toNatClampNeg)) = (0 : Int32) then
                            some ((-13 : Int32), m_item)
                          else
                            (if p1 = p3 then
                              (if p4 ≤ p2 then
                                fl_X7_copy_110 300 m_lane m_size m_item p1 p2 p3 p4 p5 (0 : Int32) (0 : Int32)
                              else
                                fl_X7_copy_110 300 m_lane m_size m_item p1 p2 p3 p4 p5 (1 : Int32) (0 : Int32))
                            else
                              fl_X7_copy_110 300 m_lane m_size m_item p1 p2 p3 p4 p5 (0 : Int32) (0 : Int32))))))
                  else
                    some ((-12 : Int32), m_item))))
            else
              some ((-11 : Int32), m_item)))))))
end KFN
