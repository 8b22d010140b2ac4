section KL4
variable {L : Nat} {xs : Nat → Int32} {r_t_kinds : (Nat → Int32)} {r_t_holds : (Nat → Int32)} {r_t_barred : (Nat → Int32)} {r_t_parties : (Nat → Int32)} {r_t_size : Int32} {r_p_numbers : (Nat → Int32)} {r_p_size : Int32} {r_firms : (Nat → Int32)} {r_tied : Int32} {r_wars : Int32} {r_wet : Int32} {r_day : Int32} {r_drawn : Int32} {k_t_kinds : (Nat → Int32)} {k_t_holds : (Nat → Int32)} {k_t_barred : (Nat → Int32)} {k_t_parties : (Nat → Int32)} {k_t_size : Int32} {k_p_numbers : (Nat → Int32)} {k_p_size : Int32} {k_firms : (Nat → Int32)} {k_tied : Int32} {k_wars : Int32} {k_wet : Int32} {k_day : Int32} {k_drawn : Int32} {f_depths : (Nat → Int32)} {f_bars : (Nat → Int32)} {f_ways : (Nat → Int32)} {d_letters : (Nat → Int32)} {d_t_kinds : (Nat → Int32)} {d_t_holds : (Nat → Int32)} {d_t_barred : (Nat → Int32)} {d_t_parties : (Nat → Int32)} {d_t_size : Int32} {d_size : Int32} {d_at : Int32} {s_lanes : (Nat → Int32)} {s_sizes : (Nat → Int32)} {s_items : (Nat → Int64)} {isKept : Int32} {m_lane : (Nat → Int32)} {m_size : (Nat → Int32)} {m_item : (Nat → Int64)} {m_letters : Int32} {m_tape : (Nat → Int32)} {m_position : Int32} {m_number : Int32} {m_now : (Nat → Int32)} {m_tried : (Nat → Int32)} {m_read : (Nat → Int32)} {m_kept : (Nat → Int32)} {m_isKept : Int32} {m_ways : (Nat → Int32)} {m_wins : (Nat → Int32)}
set_option maxRecDepth 100000 in
set_option maxHeartbeats 4000000 in
theorem mt_X7_add_1 {p1 : Int32} {p2 : Int32} {p3 : Int32} {p4 : Int32} {r9 : Int32 × (Nat → Int32)} (hf : f_X7_add_1 m_read p1 p2 p3 p4 = some r9) : kn_Post kn_T km_X7_add (0, [(0, .ref 42), (1, .int p1), (2, .int p2), (3, .int p3), (4, .int p4)], []) (kn_hp L xs r_t_kinds r_t_holds r_t_barred r_t_parties r_t_size r_p_numbers r_p_size r_firms r_tied r_wars r_wet r_day r_drawn k_t_kinds k_t_holds k_t_barred k_t_parties k_t_size k_p_numbers k_p_size k_firms k_tied k_wars k_wet k_day k_drawn f_depths f_bars f_ways d_letters d_t_kinds d_t_holds d_t_barred d_t_parties d_t_size d_size d_at s_lanes s_sizes s_items isKept m_lane m_size m_item m_letters m_tape m_position m_number m_now m_tried m_read m_kept m_isKept m_ways m_wins) (fun v9 h9 => v9 = some (.int r9.1) ∧ h9 = (kn_hp L xs r_t_kinds r_t_holds r_t_barred r_t_parties r_t_size r_p_numbers r_p_size r_firms r_tied r_wars r_wet r_day r_drawn k_t_kinds k_t_holds k_t_barred k_t_parties k_t_size k_p_numbers k_p_size k_firms k_tied k_wars k_wet k_day k_drawn f_depths f_bars f_ways d_letters d_t_kinds d_t_holds d_t_barred d_t_parties d_t_size d_size d_at s_lanes s_sizes s_items isKept m_lane m_size m_item m_letters m_tape m_position m_number m_now m_tried r9.2 m_kept m_isKept m_ways m_wins)) := by
  unfold f_X7_add_1 at hf
  refine kn_P_steps 9 (f1 := (12, [(5, .int (m_read 5)), (0, .ref 42), (1, .int p1), (2, .int p2), (3, .int p3), (4, .int p4)], [.int p1, .int ((6 : Int32) + (m_read 5)), .ref 42])) (h1 := (kn_hp L xs r_t_kinds r_t_holds r_t_barred r_t_parties r_t_size r_p_numbers r_p_size r_firms r_tied r_wars r_wet r_day r_drawn k_t_kinds k_t_holds k_t_barred k_t_parties k_t_size k_p_numbers k_p_size k_firms k_tied k_wars k_wet k_day k_drawn f_depths f_bars f_ways d_letters d_t_kinds d_t_holds d_t_barred d_t_parties d_t_size d_size d_at s_lanes s_sizes s_items isKept m_lane m_size m_item m_letters m_tape m_position m_number m_now m_tried m_read m_kept m_isKept m_ways m_wins)) (by with_unfolding_all rfl) ?_
  by_cases hb1 : ((6 : Int32) + (m_read 5)) < 0 ∨ 79 ≤ (((6 : Int32) + (m_read 5))).toNatClampNeg
  · rw [if_pos hb1] at hf; cases hf
  · rw [if_neg hb1] at hf
    refine kn_Q_ok (c := ((6 : Int32) + (m_read 5)) < 0 ∨ 79 ≤ (((6 : Int32) + (m_read 5))).toNatClampNeg) (t := 13) (l1 := [(5, .int (m_read 5)), (0, .ref 42), (1, .int p1), (2, .int p2), (3, .int p3), (4, .int p4)]) (s1 := []) (h1 := (kn_hp L xs r_t_kinds r_t_holds r_t_barred r_t_parties r_t_size r_p_numbers r_p_size r_firms r_tied r_wars r_wet r_day r_drawn k_t_kinds k_t_holds k_t_barred k_t_parties k_t_size k_p_numbers k_p_size k_firms k_tied k_wars k_wet k_day k_drawn f_depths f_bars f_ways d_letters d_t_kinds d_t_holds d_t_barred d_t_parties d_t_size d_size d_at s_lanes s_sizes s_items isKept m_lane m_size m_item m_letters m_tape m_position m_number m_now m_tried (upd m_read (((6 : Int32) + (m_read 5))).toNatClampNeg p1) m_kept m_isKept m_ways m_wins)) (by with_unfolding_all rfl) hb1 ?_
    refine kn_P_steps 5 (f1 := (20, [(5, .int (m_read 5)), (0, .ref 42), (1, .int p1), (2, .int p2), (3, .int p3), (4, .int p4)], [.int p2, .int ((14 : Int32) + (m_read 5)), .ref 42])) (h1 := (kn_hp L xs r_t_kinds r_t_holds r_t_barred r_t_parties r_t_size r_p_numbers r_p_size r_firms r_tied r_wars r_wet r_day r_drawn k_t_kinds k_t_holds k_t_barred k_t_parties k_t_size k_p_numbers k_p_size k_firms k_tied k_wars k_wet k_day k_drawn f_depths f_bars f_ways d_letters d_t_kinds d_t_holds d_t_barred d_t_parties d_t_size d_size d_at s_lanes s_sizes s_items isKept m_lane m_size m_item m_letters m_tape m_position m_number m_now m_tried (upd m_read (((6 : Int32) + (m_read 5))).toNatClampNeg p1) m_kept m_isKept m_ways m_wins)) (by with_unfolding_all rfl) ?_
    by_cases hb2 : ((14 : Int32) + (m_read 5)) < 0 ∨ 79 ≤ (((14 : Int32) + (m_read 5))).toNatClampNeg
    · rw [if_pos hb2] at hf; cases hf
    · rw [if_neg hb2] at hf
      refine kn_Q_ok (c := ((14 : Int32) + (m_read 5)) < 0 ∨ 79 ≤ (((14 : Int32) + (m_read 5))).toNatClampNeg) (t := 21) (l1 := [(5, .int (m_read 5)), (0, .ref 42), (1, .int p1), (2, .int p2), (3, .int p3), (4, .int p4)]) (s1 := []) (h1 := (kn_hp L xs r_t_kinds r_t_holds r_t_barred r_t_parties r_t_size r_p_numbers r_p_size r_firms r_tied r_wars r_wet r_day r_drawn k_t_kinds k_t_holds k_t_barred k_t_parties k_t_size k_p_numbers k_p_size k_firms k_tied k_wars k_wet k_day k_drawn f_depths f_bars f_ways d_letters d_t_kinds d_t_holds d_t_barred d_t_parties d_t_size d_size d_at s_lanes s_sizes s_items isKept m_lane m_size m_item m_letters m_tape m_position m_number m_now m_tried (upd (upd m_read (((6 : Int32) + (m_read 5))).toNatClampNeg p1) (((14 : Int32) + (m_read 5))).toNatClampNeg p2) m_kept m_isKept m_ways m_wins)) (by with_unfolding_all rfl) hb2 ?_
      refine kn_P_steps 5 (f1 := (28, [(5, .int (m_read 5)), (0, .ref 42), (1, .int p1), (2, .int p2), (3, .int p3), (4, .int p4)], [.int p3, .int ((22 : Int32) + (m_read 5)), .ref 42])) (h1 := (kn_hp L xs r_t_kinds r_t_holds r_t_barred r_t_parties r_t_size r_p_numbers r_p_size r_firms r_tied r_wars r_wet r_day r_drawn k_t_kinds k_t_holds k_t_barred k_t_parties k_t_size k_p_numbers k_p_size k_firms k_tied k_wars k_wet k_day k_drawn f_depths f_bars f_ways d_letters d_t_kinds d_t_holds d_t_barred d_t_parties d_t_size d_size d_at s_lanes s_sizes s_items isKept m_lane m_size m_item m_letters m_tape m_position m_number m_now m_tried (upd (upd m_read (((6 : Int32) + (m_read 5))).toNatClampNeg p1) (((14 : Int32) + (m_read 5))).toNatClampNeg p2) m_kept m_isKept m_ways m_wins)) (by with_unfolding_all rfl) ?_
      by_cases hb3 : ((22 : Int32) + (m_read 5)) < 0 ∨ 79 ≤ (((22 : Int32) + (m_read 5))).toNatClampNeg
      · rw [if_pos hb3] at hf; cases hf
      · rw [if_neg hb3] at hf
        refine kn_Q_ok (c := ((22 : Int32) + (m_read 5)) < 0 ∨ 79 ≤ (((22 : Int32) + (m_read 5))).toNatClampNeg) (t := 29) (l1 := [(5, .int (m_read 5)), (0, .ref 42), (1, .int p1), (2, .int p2), (3, .int p3), (4, .int p4)]) (s1 := []) (h1 := (kn_hp L xs r_t_kinds r_t_holds r_t_barred r_t_parties r_t_size r_p_numbers r_p_size r_firms r_tied r_wars r_wet r_day r_drawn k_t_kinds k_t_holds k_t_barred k_t_parties k_t_size k_p_numbers k_p_size k_firms k_tied k_wars k_wet k_day k_drawn f_depths f_bars f_ways d_letters d_t_kinds d_t_holds d_t_barred d_t_parties d_t_size d_size d_at s_lanes s_sizes s_items isKept m_lane m_size m_item m_letters m_tape m_position m_number m_now m_tried (upd (upd (upd m_read (((6 : Int32) + (m_read 5))).toNatClampNeg p1) (((14 : Int32) + (m_read 5))).toNatClampNeg p2) (((22 : Int32) + (m_read 5))).toNatClampNeg p3) m_kept m_isKept m_ways m_wins)) (by with_unfolding_all rfl) hb3 ?_
        refine kn_P_steps 5 (f1 := (37, [(5, .int (m_read 5)), (0, .ref 42), (1, .int p1), (2, .int p2), (3, .int p3), (4, .int p4)], [.int p4, .int ((30 : Int32) + (m_read 5)), .ref 42])) (h1 := (kn_hp L xs r_t_kinds r_t_holds r_t_barred r_t_parties r_t_size r_p_numbers r_p_size r_firms r_tied r_wars r_wet r_day r_drawn k_t_kinds k_t_holds k_t_barred k_t_parties k_t_size k_p_numbers k_p_size k_firms k_tied k_wars k_wet k_day k_drawn f_depths f_bars f_ways d_letters d_t_kinds d_t_holds d_t_barred d_t_parties d_t_size d_size d_at s_lanes s_sizes s_items isKept m_lane m_size m_item m_letters m_tape m_position m_number m_now m_tried (upd (upd (upd m_read (((6 : Int32) + (m_read 5))).toNatClampNeg p1) (((14 : Int32) + (m_read 5))).toNatClampNeg p2) (((22 : Int32) + (m_read 5))).toNatClampNeg p3) m_kept m_isKept m_ways m_wins)) (by with_unfolding_all rfl) ?_
        by_cases hb4 : ((30 : Int32) + (m_read 5)) < 0 ∨ 79 ≤ (((30 : Int32) + (m_read 5))).toNatClampNeg
        · rw [if_pos hb4] at hf; cases hf
        · rw [if_neg hb4] at hf
          refine kn_Q_ok (c := ((30 : Int32) + (m_read 5)) < 0 ∨ 79 ≤ (((30 : Int32) + (m_read 5))).toNatClampNeg) (t := 38) (l1 := [(5, .int (m_read 5)), (0, .ref 42), (1, .int p1), (2, .int p2), (3, .int p3), (4, .int p4)]) (s1 := []) (h1 := (kn_hp L xs r_t_kinds r_t_holds r_t_barred r_t_parties r_t_size r_p_numbers r_p_size r_firms r_tied r_wars r_wet r_day r_drawn k_t_kinds k_t_holds k_t_barred k_t_parties k_t_size k_p_numbers k_p_size k_firms k_tied k_wars k_wet k_day k_drawn f_depths f_bars f_ways d_letters d_t_kinds d_t_holds d_t_barred d_t_parties d_t_size d_size d_at s_lanes s_sizes s_items isKept m_lane m_size m_item m_letters m_tape m_position m_number m_now m_tried (upd (upd (upd (upd m_read (((6 : Int32) + (m_read 5))).toNatClampNeg p1) (((14 : Int32) + (m_read 5))).toNatClampNeg p2) (((22 : Int32) + (m_read 5))).toNatClampNeg p3) (((30 : Int32) + (m_read 5))).toNatClampNeg p4) m_kept m_isKept m_ways m_wins)) (by with_unfolding_all rfl) hb4 ?_
          refine kn_P_steps 18 (f1 := (58, [(5, .int (m_read 5)), (0, .ref 42), (1, .int p1), (2, .int p2), (3, .int p3), (4, .int p4)], [.int (m_read 5)])) (h1 := (kn_hp L xs r_t_kinds r_t_holds r_t_barred r_t_parties r_t_size r_p_numbers r_p_size r_firms r_tied r_wars r_wet r_day r_drawn k_t_kinds k_t_holds k_t_barred k_t_parties k_t_size k_p_numbers k_p_size k_firms k_tied k_wars k_wet k_day k_drawn f_depths f_bars f_ways d_letters d_t_kinds d_t_holds d_t_barred d_t_parties d_t_size d_size d_at s_lanes s_sizes s_items isKept m_lane m_size m_item m_letters m_tape m_position m_number m_now m_tried (upd (upd (upd (upd (upd (upd m_read (((6 : Int32) + (m_read 5))).toNatClampNeg p1) (((14 : Int32) + (m_read 5))).toNatClampNeg p2) (((22 : Int32) + (m_read 5))).toNatClampNeg p3) (((30 : Int32) + (m_read 5))).toNatClampNeg p4) 2 (((upd (upd (upd (upd m_read (((6 : Int32) + (m_read 5))).toNatClampNeg p1) (((14 : Int32) + (m_read 5))).toNatClampNeg p2) (((22 : Int32) + (m_read 5))).toNatClampNeg p3) (((30 : Int32) + (m_read 5))).toNatClampNeg p4) 2) ||| ((1 : Int32) <<< ((m_read 5) &&& (31 : Int32))))) 5 (((upd (upd (upd (upd (upd m_read (((6 : Int32) + (m_read 5))).toNatClampNeg p1) (((14 : Int32) + (m_read 5))).toNatClampNeg p2) (((22 : Int32) + (m_read 5))).toNatClampNeg p3) (((30 : Int32) + (m_read 5))).toNatClampNeg p4) 2 (((upd (upd (upd (upd m_read (((6 : Int32) + (m_read 5))).toNatClampNeg p1) (((14 : Int32) + (m_read 5))).toNatClampNeg p2) (((22 : Int32) + (m_read 5))).toNatClampNeg p3) (((30 : Int32) + (m_read 5))).toNatClampNeg p4) 2) ||| ((1 : Int32) <<< ((m_read 5) &&& (31 : Int32))))) 5) + (1 : Int32))) m_kept m_isKept m_ways m_wins)) (by with_unfolding_all rfl) ?_
          replace hf := Option.some.inj hf
          subst hf
          exact kn_Q_ret (v := some (.int (m_read 5))) (by with_unfolding_all rfl) ⟨rfl, rfl⟩
set_option maxRecDepth 100000 in
set_option maxHeartbeats 4000000 in
theorem ml_X7_isClauseItem_78 : ∀ (n : Nat) (m_letters : Int32) (m_tape : (Nat → Int32)) (m_position : Int32) (m_number : Int32) (m_read : (Nat → Int32)) (v1 : Int32) (v2 : Int32) (v3 : Int32) (v4 : Int32) (r9 : Int32 × Int32 × Int32 × (Nat → Int32)), fl_X7_isClauseItem_78 n m_letters m_tape m_position m_number m_read v1 v2 v3 v4 = some r9 → kn_Post kn_T km_X7_isClauseItem (78, [(0, .ref 35), (1, .int v1), (2, .int v2), (3, .int v3), (4, .int v4)], []) (kn_hp L xs r_t_kinds r_t_holds r_t_barred r_t_parties r_t_size r_p_numbers r_p_size r_firms r_tied r_wars r_wet r_day r_drawn k_t_kinds k_t_holds k_t_barred k_t_parties k_t_size k_p_numbers k_p_size k_firms k_tied k_wars k_wet k_day k_drawn f_depths f_bars f_ways d_letters d_t_kinds d_t_holds d_t_barred d_t_parties d_t_size d_size d_at s_lanes s_sizes s_items isKept m_lane m_size m_item m_letters m_tape m_position m_number m_now m_tried m_read m_kept m_isKept m_ways m_wins) (fun v9 h9 => v9 = some (.int r9.1) ∧ h9 = (kn_hp L xs r_t_kinds r_t_holds r_t_barred r_t_parties r_t_size r_p_numbers r_p_size r_firms r_tied r_wars r_wet r_day r_drawn k_t_kinds k_t_holds k_t_barred k_t_parties k_t_size k_p_numbers k_p_size k_firms k_tied k_wars k_wet k_day k_drawn f_depths f_bars f_ways d_letters d_t_kinds d_t_holds d_t_barred d_t_parties d_t_size d_size d_at s_lanes s_sizes s_items isKept m_lane m_size m_item m_letters m_tape r9.2.1 r9.2.2.1 m_now m_tried r9.2.2.2 m_kept m_isKept m_ways m_wins) ∧ (r9.1 = 0 ∨ r9.1 = 1)) := by
  intro n
  induction n with
  | zero => intro m_letters m_tape m_position m_number m_read v1 v2 v3 v4 r9 hf; cases hf
  | succ n ih =>
    intro m_letters m_tape m_position m_number m_read v1 v2 v3 v4 r9 hf
    rw [fl_X7_isClauseItem_78] at hf
    refine kn_P_steps 1 (f1 := (79, [(0, .ref 35), (1, .int v1), (2, .int v2), (3, .int v3), (4, .int v4)], [.ref 35])) (h1 := (kn_hp L xs r_t_kinds r_t_holds r_t_barred r_t_parties r_t_size r_p_numbers r_p_size r_firms r_tied r_wars r_wet r_day r_drawn k_t_kinds k_t_holds k_t_barred k_t_parties k_t_size k_p_numbers k_p_size k_firms k_tied k_wars k_wet k_day k_drawn f_depths f_bars f_ways d_letters d_t_kinds d_t_holds d_t_barred d_t_parties d_t_size d_size d_at s_lanes s_sizes s_items isKept m_lane m_size m_item m_letters m_tape m_position m_number m_now m_tried m_read m_kept m_isKept m_ways m_wins)) (by with_unfolding_all rfl) ?_
    cases e1 : f_X7_peek m_letters m_tape m_position with
    | none => rw [e1] at hf; cases hf
    | some q9 =>
      rw [e1] at hf
      dsimp only at hf
      refine kn_Q_call (M1 := km_X7_peek) (j := 121) (as := [.ref 35]) (f1 := (82, [(0, .ref 35), (1, .int v1), (2, .int v2), (3, .int v3), (4, .int v4)], [])) (f0 := (0, [(0, .ref 35)], [])) (by with_unfolding_all rfl) (by with_unfolding_all rfl) (by with_unfolding_all rfl) (mt_X7_peek e1) (fun v9 h9 q9 => ?_)
      obtain ⟨rfl, rfl⟩ := q9
      refine kn_P_steps 2 (f1 := (86, [(0, .ref 35), (1, .int v1), (2, .int v2), (3, .int v3), (4, .int v4)], [.int (57 : Int32), .int (48 : Int32), .int q9.1])) (h1 := (kn_hp L xs r_t_kinds r_t_holds r_t_barred r_t_parties r_t_size r_p_numbers r_p_size r_firms r_tied r_wars r_wet r_day r_drawn k_t_kinds k_t_holds k_t_barred k_t_parties k_t_size k_p_numbers k_p_size k_firms k_tied k_wars k_wet k_day k_drawn f_depths f_bars f_ways d_letters d_t_kinds d_t_holds d_t_barred d_t_parties d_t_size d_size d_at s_lanes s_sizes s_items isKept m_lane m_size m_item m_letters m_tape q9.2 m_number m_now m_tried m_read m_kept m_isKept m_ways m_wins)) (by with_unfolding_all rfl) ?_
      refine kn_Q_call (M1 := km_X7_in) (j := 106) (as := [.int q9.1, .int (48 : Int32), .int (57 : Int32)]) (f1 := (89, [(0, .ref 35), (1, .int v1), (2, .int v2), (3, .int v3), (4, .int v4)], [])) (f0 := (0, [(0, .int q9.1), (1, .int (48 : Int32)), (2, .int (57 : Int32))], [])) (by with_unfolding_all rfl) (by with_unfolding_all rfl) (by with_unfolding_all rfl) (mt_X7_in rfl) (fun v9 h9 q9 => ?_)
      obtain ⟨rfl, rfl, hz2⟩ := q9
      refine kn_Q_if (c := (f_X7_in q9.1 (48 : Int32) (57 : Int32)) = (0 : Int32)) (t := 129) (n := 92) (l1 := [(0, .ref 35), (1, .int v1), (2, .int v2), (3, .int v3), (4, .int v4)]) (s1 := []) (by with_unfolding_all rfl) (fun hc3 => ?_) (fun hc3 => ?_)
      · rw [if_pos hc3] at hf
        refine kn_P_steps 4 (f1 := (135, [(4, .int (0 : Int32)), (0, .ref 35), (1, .int v1), (2, .int v2), (3, .int v3)], [.int (64 : Int32), .ref 35])) (h1 := (kn_hp L xs r_t_kinds r_t_holds r_t_barred r_t_parties r_t_size r_p_numbers r_p_size r_firms r_tied r_wars r_wet r_day r_drawn k_t_kinds k_t_holds k_t_barred k_t_parties k_t_size k_p_numbers k_p_size k_firms k_tied k_wars k_wet k_day k_drawn f_depths f_bars f_ways d_letters d_t_kinds d_t_holds d_t_barred d_t_parties d_t_size d_size d_at s_lanes s_sizes s_items isKept m_lane m_size m_item m_letters m_tape q9.2 m_number m_now m_tried m_read m_kept m_isKept m_ways m_wins)) (by with_unfolding_all rfl) ?_
        cases e4 : f_X7_isSign m_letters m_tape q9.2 (64 : Int32) with
        | none => rw [e4] at hf; cases hf
        | some q10 =>
          rw [e4] at hf
          dsimp only at hf
          refine kn_Q_call (M1 := km_X7_isSign) (j := 122) (as := [.ref 35, .int (64 : Int32)]) (f1 := (138, [(4, .int (0 : Int32)), (0, .ref 35), (1, .int v1), (2, .int v2), (3, .int v3)], [])) (f0 := (0, [(0, .ref 35), (1, .int (64 : Int32))], [])) (by with_unfolding_all rfl) (by with_unfolding_all rfl) (by with_unfolding_all rfl) (mt_X7_isSign e4) (fun v9 h9 q9 => ?_)
          obtain ⟨rfl, rfl, hz5⟩ := q9
          refine kn_Q_if (c := q10.1 = (0 : Int32)) (t := 158) (n := 141) (l1 := [(4, .int (0 : Int32)), (0, .ref 35), (1, .int v1), (2, .int v2), (3, .int v3)]) (s1 := []) (by with_unfolding_all rfl) (fun hc6 => ?_) (fun hc6 => ?_)
          · rw [if_pos hc6] at hf
            refine kn_P_steps 6 (f1 := (167, [(4, .int (0 : Int32)), (0, .ref 35), (1, .int v1), (2, .int v2), (3, .int v3)], [.int (0 : Int32), .int v3, .int v2, .int v1, .ref 42])) (h1 := (kn_hp L xs r_t_kinds r_t_holds r_t_barred r_t_parties r_t_size r_p_numbers r_p_size r_firms r_tied r_wars r_wet r_day r_drawn k_t_kinds k_t_holds k_t_barred k_t_parties k_t_size k_p_numbers k_p_size k_firms k_tied k_wars k_wet k_day k_drawn f_depths f_bars f_ways d_letters d_t_kinds d_t_holds d_t_barred d_t_parties d_t_size d_size d_at s_lanes s_sizes s_items isKept m_lane m_size m_item m_letters m_tape q10.2 m_number m_now m_tried m_read m_kept m_isKept m_ways m_wins)) (by with_unfolding_all rfl) ?_
            cases e7 : f_X7_add_1 m_read v1 v2 v3 (0 : Int32) with
            | none => rw [e7] at hf; cases hf
            | some q11 =>
              rw [e7] at hf
              dsimp only at hf
              refine kn_Q_call (M1 := km_X7_add) (j := 111) (as := [.ref 42, .int v1, .int v2, .int v3, .int (0 : Int32)]) (f1 := (170, [(4, .int (0 : Int32)), (0, .ref 35), (1, .int v1), (2, .int v2), (3, .int v3)], [])) (f0 := (0, [(0, .ref 42), (1, .int v1), (2, .int v2), (3, .int v3), (4, .int (0 : Int32))], [])) (by with_unfolding_all rfl) (by with_unfolding_all rfl) (by with_unfolding_all rfl) (mt_X7_add_1 e7) (fun v9 h9 q9 => ?_)
              obtain ⟨rfl, rfl⟩ := q9
              refine kn_P_steps 2 (f1 := (172, [(4, .int (0 : Int32)), (0, .ref 35), (1, .int v1), (2, .int v2), (3, .int v3)], [.int (1 : Int32)])) (h1 := (kn_hp L xs r_t_kinds r_t_holds r_t_barred r_t_parties r_t_size r_p_numbers r_p_size r_firms r_tied r_wars r_wet r_day r_drawn k_t_kinds k_t_holds k_t_barred k_t_parties k_t_size k_p_numbers k_p_size k_firms k_tied k_wars k_wet k_day k_drawn f_depths f_bars f_ways d_letters d_t_kinds d_t_holds d_t_barred d_t_parties d_t_size d_size d_at s_lanes s_sizes s_items isKept m_lane m_size m_item m_letters m_tape q10.2 m_number m_now m_tried q11.2 m_kept m_isKept m_ways m_wins)) (by with_unfolding_all rfl) ?_
              replace hf := Option.some.inj hf
              subst hf
              exact kn_Q_ret (v := some (.int (1 : Int32))) (by with_unfolding_all rfl) ⟨rfl, rfl, Or.inr rfl⟩
          · rw [if_neg hc6] at hf
            refine kn_P_steps 3 (f1 := (144, [(4, .int (0 : Int32)), (0, .ref 35), (1, .int v1), (2, .int v2), (3, .int v3)], [.int (3 : Int32), .int (0 : Int32), .ref 35])) (h1 := (kn_hp L xs r_t_kinds r_t_holds r_t_barred r_t_parties r_t_size r_p_numbers r_p_size r_firms r_tied r_wars r_wet r_day r_drawn k_t_kinds k_t_holds k_t_barred k_t_parties k_t_size k_p_numbers k_p_size k_firms k_tied k_wars k_wet k_day k_drawn f_depths f_bars f_ways d_letters d_t_kinds d_t_holds d_t_barred d_t_parties d_t_size d_size d_at s_lanes s_sizes s_items isKept m_lane m_size m_item m_letters m_tape q10.2 m_number m_now m_tried m_read m_kept m_isKept m_ways m_wins)) (by with_unfolding_all rfl) ?_
            cases e8 : f_X7_isDigit m_letters m_tape q10.2 m_number (0 : Int32) (3 : Int32) with
            | none => rw [e8] at hf; cases hf
            | some q12 =>
              rw [e8] at hf
              dsimp only at hf
              refine kn_Q_call (M1 := km_X7_isDigit) (j := 123) (as := [.ref 35, .int (0 : Int32), .int (3 : Int32)]) (f1 := (147, [(4, .int (0 : Int32)), (0, .ref 35), (1, .int v1), (2, .int v2), (3, .int v3)], [])) (f0 := (0, [(0, .ref 35), (1, .int (0 : Int32)), (2, .int (3 : Int32))], [])) (by with_unfolding_all rfl) (by with_unfolding_all rfl) (by with_unfolding_all rfl) (mt_X7_isDigit e8) (fun v9 h9 q9 => ?_)
              obtain ⟨rfl, rfl, hz9⟩ := q9
              refine kn_Q_if (c := q12.1 = (0 : Int32)) (t := 150) (n := 152) (l1 := [(4, .int (0 : Int32)), (0, .ref 35), (1, .int v1), (2, .int v2), (3, .int v3)]) (s1 := []) (by with_unfolding_all rfl) (fun hc10 => ?_) (fun hc10 => ?_)
              · rw [if_pos hc10] at hf
                refine kn_P_steps 1 (f1 := (151, [(4, .int (0 : Int32)), (0, .ref 35), (1, .int v1), (2, .int v2), (3, .int v3)], [.int (0 : Int32)])) (h1 := (kn_hp L xs r_t_kinds r_t_holds r_t_barred r_t_parties r_t_size r_p_numbers r_p_size r_firms r_tied r_wars r_wet r_day r_drawn k_t_kinds k_t_holds k_t_barred k_t_parties k_t_size k_p_numbers k_p_size k_firms k_tied k_wars k_wet k_day k_drawn f_depths f_bars f_ways d_letters d_t_kinds d_t_holds d_t_barred d_t_parties d_t_size d_size d_at s_lanes s_sizes s_items isKept m_lane m_size m_item m_letters m_tape q12.2.1 q12.2.2 m_now m_tried m_read m_kept m_isKept m_ways m_wins)) (by with_unfolding_all rfl) ?_
                replace hf := Option.some.inj hf
                subst hf
                exact kn_Q_ret (v := some (.int (0 : Int32))) (by with_unfolding_all rfl) ⟨rfl, rfl, Or.inl rfl⟩
              · rw [if_neg hc10] at hf
                refine kn_P_steps 9 (f1 := (167, [(4, .int q12.2.2), (0, .ref 35), (1, .int v1), (2, .int v2), (3, .int v3)], [.int q12.2.2, .int v3, .int v2, .int v1, .ref 42])) (h1 := (kn_hp L xs r_t_kinds r_t_holds r_t_barred r_t_parties r_t_size r_p_numbers r_p_size r_firms r_tied r_wars r_wet r_day r_drawn k_t_kinds k_t_holds k_t_barred k_t_parties k_t_size k_p_numbers k_p_size k_firms k_tied k_wars k_wet k_day k_drawn f_depths f_bars f_ways d_letters d_t_kinds d_t_holds d_t_barred d_t_parties d_t_size d_size d_at s_lanes s_sizes s_items isKept m_lane m_size m_item m_letters m_tape q12.2.1 q12.2.2 m_now m_tried m_read m_kept m_isKept m_ways m_wins)) (by with_unfolding_all rfl) ?_
                cases e11 : f_X7_add_1 m_read v1 v2 v3 q12.2.2 with
                | none => rw [e11] at hf; cases hf
                | some q13 =>
                  rw [e11] at hf
                  dsimp only at hf
                  refine kn_Q_call (M1 := km_X7_add) (j := 111) (as := [.ref 42, .int v1, .int v2, .int v3, .int q12.2.2]) (f1 := (170, [(4, .int q12.2.2), (0, .ref 35), (1, .int v1), (2, .int v2), (3, .int v3)], [])) (f0 := (0, [(0, .ref 42), (1, .int v1), (2, .int v2), (3, .int v3), (4, .int q12.2.2)], [])) (by with_unfolding_all rfl) (by with_unfolding_all rfl) (by with_unfolding_all rfl) (mt_X7_add_1 e11) (fun v9 h9 q9 => ?_)
                  obtain ⟨rfl, rfl⟩ := q9
                  refine kn_P_steps 2 (f1 := (172, [(4, .int q12.2.2), (0, .ref 35), (1, .int v1), (2, .int v2), (3, .int v3)], [.int (1 : Int32)])) (h1 := (kn_hp L xs r_t_kinds r_t_holds r_t_barred r_t_parties r_t_size r_p_numbers r_p_size r_firms r_tied r_wars r_wet r_day r_drawn k_t_kinds k_t_holds k_t_barred k_t_parties k_t_size k_p_numbers k_p_size k_firms k_tied k_wars k_wet k_day k_drawn f_depths f_bars f_ways d_letters d_t_kinds d_t_holds d_t_barred d_t_parties d_t_size d_size d_at s_lanes s_sizes s_items isKept m_lane m_size m_item m_letters m_tape q12.2.1 q12.2.2 m_now m_tried q13.2 m_kept m_isKept m_ways m_wins)) (by with_unfolding_all rfl) ?_
                  replace hf := Option.some.inj hf
                  subst hf
                  exact kn_Q_ret (v := some (.int (1 : Int32))) (by with_unfolding_all rfl) ⟨rfl, rfl, Or.inr rfl⟩
      · rw [if_neg hc3] at hf
        refine kn_P_steps 10 (f1 := (105, [(0, .ref 35), (1, .int v1), (2, .int v2), (3, .int v3), (4, .int v4)], [.int ((m_read 5) - (1 : Int32)), .int (v4 + (1 : Int32)), .ref 35])) (h1 := (kn_hp L xs r_t_kinds r_t_holds r_t_barred r_t_parties r_t_size r_p_numbers r_p_size r_firms r_tied r_wars r_wet r_day r_drawn k_t_kinds k_t_holds k_t_barred k_t_parties k_t_size k_p_numbers k_p_size k_firms k_tied k_wars k_wet k_day k_drawn f_depths f_bars f_ways d_letters d_t_kinds d_t_holds d_t_barred d_t_parties d_t_size d_size d_at s_lanes s_sizes s_items isKept m_lane m_size m_item m_letters m_tape q9.2 m_number m_now m_tried m_read m_kept m_isKept m_ways m_wins)) (by with_unfolding_all rfl) ?_
        cases e12 : f_X7_isDigit m_letters m_tape q9.2 m_number (v4 + (1 : Int32)) ((m_read 5) - (1 : Int32)) with
        | none => rw [e12] at hf; cases hf
        | some q14 =>
          rw [e12] at hf
          dsimp only at hf
          refine kn_Q_call (M1 := km_X7_isDigit) (j := 123) (as := [.ref 35, .int (v4 + (1 : Int32)), .int ((m_read 5) - (1 : Int32))]) (f1 := (108, [(0, .ref 35), (1, .int v1), (2, .int v2), (3, .int v3), (4, .int v4)], [])) (f0 := (0, [(0, .ref 35), (1, .int (v4 + (1 : Int32))), (2, .int ((m_read 5) - (1 : Int32)))], [])) (by with_unfolding_all rfl) (by with_unfolding_all rfl) (by with_unfolding_all rfl) (mt_X7_isDigit e12) (fun v9 h9 q9 => ?_)
          obtain ⟨rfl, rfl, hz13⟩ := q9
          refine kn_Q_if (c := q14.1 = (0 : Int32)) (t := 111) (n := 113) (l1 := [(0, .ref 35), (1, .int v1), (2, .int v2), (3, .int v3), (4, .int v4)]) (s1 := []) (by with_unfolding_all rfl) (fun hc14 => ?_) (fun hc14 => ?_)
          · rw [if_pos hc14] at hf
            refine kn_P_steps 1 (f1 := (112, [(0, .ref 35), (1, .int v1), (2, .int v2), (3, .int v3), (4, .int v4)], [.int (0 : Int32)])) (h1 := (kn_hp L xs r_t_kinds r_t_holds r_t_barred r_t_parties r_t_size r_p_numbers r_p_size r_firms r_tied r_wars r_wet r_day r_drawn k_t_kinds k_t_holds k_t_barred k_t_parties k_t_size k_p_numbers k_p_size k_firms k_tied k_wars k_wet k_day k_drawn f_depths f_bars f_ways d_letters d_t_kinds d_t_holds d_t_barred d_t_parties d_t_size d_size d_at s_lanes s_sizes s_items isKept m_lane m_size m_item m_letters m_tape q14.2.1 q14.2.2 m_now m_tried m_read m_kept m_isKept m_ways m_wins)) (by with_unfolding_all rfl) ?_
            replace hf := Option.some.inj hf
            subst hf
            exact kn_Q_ret (v := some (.int (0 : Int32))) (by with_unfolding_all rfl) ⟨rfl, rfl, Or.inl rfl⟩
          · rw [if_neg hc14] at hf
            refine kn_P_steps 10 (f1 := (78, [(3, .int (v3 ||| ((1 : Int32) <<< (q14.2.2 &&& (31 : Int32))))), (4, .int q14.2.2), (0, .ref 35), (1, .int v1), (2, .int v2)], [])) (h1 := (kn_hp L xs r_t_kinds r_t_holds r_t_barred r_t_parties r_t_size r_p_numbers r_p_size r_firms r_tied r_wars r_wet r_day r_drawn k_t_kinds k_t_holds k_t_barred k_t_parties k_t_size k_p_numbers k_p_size k_firms k_tied k_wars k_wet k_day k_drawn f_depths f_bars f_ways d_letters d_t_kinds d_t_holds d_t_barred d_t_parties d_t_size d_size d_at s_lanes s_sizes s_items isKept m_lane m_size m_item m_letters m_tape q14.2.1 q14.2.2 m_now m_tried m_read m_kept m_isKept m_ways m_wins)) (by with_unfolding_all rfl) ?_
            refine kn_P_pick [2, 3, 4, 0, 1] (l1 := [(0, .ref 35), (1, .int v1), (2, .int v2), (3, .int (v3 ||| ((1 : Int32) <<< (q14.2.2 &&& (31 : Int32))))), (4, .int q14.2.2)]) (by with_unfolding_all rfl) (by with_unfolding_all rfl) ?_
            exact ih _ _ _ _ _ _ _ _ _ _ hf
set_option maxRecDepth 100000 in
set_option maxHeartbeats 4000000 in
theorem mt_X7_isClauseItem  {r9 : Int32 × Int32 × Int32 × (Nat → Int32)} (hf : f_X7_isClauseItem m_letters m_tape m_position m_number m_read = some r9) : kn_Post kn_T km_X7_isClauseItem (0, [(0, .ref 35)], []) (kn_hp L xs r_t_kinds r_t_holds r_t_barred r_t_parties r_t_size r_p_numbers r_p_size r_firms r_tied r_wars r_wet r_day r_drawn k_t_kinds k_t_holds k_t_barred k_t_parties k_t_size k_p_numbers k_p_size k_firms k_tied k_wars k_wet k_day k_drawn f_depths f_bars f_ways d_letters d_t_kinds d_t_holds d_t_barred d_t_parties d_t_size d_size d_at s_lanes s_sizes s_items isKept m_lane m_size m_item m_letters m_tape m_position m_number m_now m_tried m_read m_kept m_isKept m_ways m_wins) (fun v9 h9 => v9 = some (.int r9.1) ∧ h9 = (kn_hp L xs r_t_kinds r_t_holds r_t_barred r_t_parties r_t_size r_p_numbers r_p_size r_firms r_tied r_wars r_wet r_day r_drawn k_t_kinds k_t_holds k_t_barred k_t_parties k_t_size k_p_numbers k_p_size k_firms k_tied k_wars k_wet k_day k_drawn f_depths f_bars f_ways d_letters d_t_kinds d_t_holds d_t_barred d_t_parties d_t_size d_size d_at s_lanes s_sizes s_items isKept m_lane m_size m_item m_letters m_tape r9.2.1 r9.2.2.1 m_now m_tried r9.2.2.2 m_kept m_isKept m_ways m_wins) ∧ (r9.1 = 0 ∨ r9.1 = 1)) := by
  unfold f_X7_isClauseItem at hf
  refine kn_P_steps 1 (f1 := (1, [(0, .ref 35)], [.ref 35])) (h1 := (kn_hp L xs r_t_kinds r_t_holds r_t_barred r_t_parties r_t_size r_p_numbers r_p_size r_firms r_tied r_wars r_wet r_day r_drawn k_t_kinds k_t_holds k_t_barred k_t_parties k_t_size k_p_numbers k_p_size k_firms k_tied k_wars k_wet k_day k_drawn f_depths f_bars f_ways d_letters d_t_kinds d_t_holds d_t_barred d_t_parties d_t_size d_size d_at s_lanes s_sizes s_items isKept m_lane m_size m_item m_letters m_tape m_position m_number m_now m_tried m_read m_kept m_isKept m_ways m_wins)) (by with_unfolding_all rfl) ?_
  cases e1 : f_X7_peek m_letters m_tape m_position with
  | none => rw [e1] at hf; cases hf
  | some q1 =>
    rw [e1] at hf
    dsimp only at hf
    refine kn_Q_call (M1 := km_X7_peek) (j := 121) (as := [.ref 35]) (f1 := (4, [(0, .ref 35)], [])) (f0 := (0, [(0, .ref 35)], [])) (by with_unfolding_all rfl) (by with_unfolding_all rfl) (by with_unfolding_all rfl) (mt_X7_peek e1) (fun v9 h9 q9 => ?_)
    obtain ⟨rfl, rfl⟩ := q9
    refine kn_Q_call (M1 := km_X7_kindBy) (j := 125) (as := [.int q1.1]) (f1 := (7, [(0, .ref 35)], [])) (f0 := (0, [(0, .int q1.1)], [])) (by with_unfolding_all rfl) (by with_unfolding_all rfl) (by with_unfolding_all rfl) (mt_X7_kindBy rfl) (fun v9 h9 q9 => ?_)
    obtain ⟨rfl, rfl⟩ := q9
    refine kn_P_steps 2 (f1 := (9, [(1, .int (f_X7_kindBy q1.1)), (0, .ref 35)], [.int (f_X7_kindBy q1.1)])) (h1 := (kn_hp L xs r_t_kinds r_t_holds r_t_barred r_t_parties r_t_size r_p_numbers r_p_size r_firms r_tied r_wars r_wet r_day r_drawn k_t_kinds k_t_holds k_t_barred k_t_parties k_t_size k_p_numbers k_p_size k_firms k_tied k_wars k_wet k_day k_drawn f_depths f_bars f_ways d_letters d_t_kinds d_t_holds d_t_barred d_t_parties d_t_size d_size d_at s_lanes s_sizes s_items isKept m_lane m_size m_item m_letters m_tape q1.2 m_number m_now m_tried m_read m_kept m_isKept m_ways m_wins)) (by with_unfolding_all rfl) ?_
    refine kn_Q_if (c := (0 : Int32) ≤ (f_X7_kindBy q1.1)) (t := 14) (n := 12) (l1 := [(1, .int (f_X7_kindBy q1.1)), (0, .ref 35)]) (s1 := []) (by with_unfolding_all rfl) (fun hc2 => ?_) (fun hc2 => ?_)
    · rw [if_pos hc2] at hf
      refine kn_P_steps 7 (f1 := (25, [(1, .int (f_X7_kindBy q1.1)), (0, .ref 35)], [.ref 35])) (h1 := (kn_hp L xs r_t_kinds r_t_holds r_t_barred r_t_parties r_t_size r_p_numbers r_p_size r_firms r_tied r_wars r_wet r_day r_drawn k_t_kinds k_t_holds k_t_barred k_t_parties k_t_size k_p_numbers k_p_size k_firms k_tied k_wars k_wet k_day k_drawn f_depths f_bars f_ways d_letters d_t_kinds d_t_holds d_t_barred d_t_parties d_t_size d_size d_at s_lanes s_sizes s_items isKept m_lane m_size m_item m_letters m_tape (q1.2 + (1 : Int32)) m_number m_now m_tried m_read m_kept m_isKept m_ways m_wins)) (by with_unfolding_all rfl) ?_
      cases e3 : f_X7_isNumber m_letters m_tape (q1.2 + (1 : Int32)) m_number with
      | none => rw [e3] at hf; cases hf
      | some q2 =>
        rw [e3] at hf
        dsimp only at hf
        refine kn_Q_call (M1 := km_X7_isNumber) (j := 124) (as := [.ref 35]) (f1 := (28, [(1, .int (f_X7_kindBy q1.1)), (0, .ref 35)], [])) (f0 := (0, [(0, .ref 35)], [])) (by with_unfolding_all rfl) (by with_unfolding_all rfl) (by with_unfolding_all rfl) (mt_X7_isNumber e3) (fun v9 h9 q9 => ?_)
        obtain ⟨rfl, rfl, hz4⟩ := q9
        refine kn_Q_if (c := q2.1 = (0 : Int32)) (t := 31) (n := 33) (l1 := [(1, .int (f_X7_kindBy q1.1)), (0, .ref 35)]) (s1 := []) (by with_unfolding_all rfl) (fun hc5 => ?_) (fun hc5 => ?_)
        · rw [if_pos hc5] at hf
          refine kn_P_steps 1 (f1 := (32, [(1, .int (f_X7_kindBy q1.1)), (0, .ref 35)], [.int (0 : Int32)])) (h1 := (kn_hp L xs r_t_kinds r_t_holds r_t_barred r_t_parties r_t_size r_p_numbers r_p_size r_firms r_tied r_wars r_wet r_day r_drawn k_t_kinds k_t_holds k_t_barred k_t_parties k_t_size k_p_numbers k_p_size k_firms k_tied k_wars k_wet k_day k_drawn f_depths f_bars f_ways d_letters d_t_kinds d_t_holds d_t_barred d_t_parties d_t_size d_size d_at s_lanes s_sizes s_items isKept m_lane m_size m_item m_letters m_tape q2.2.1 q2.2.2 m_now m_tried m_read m_kept m_isKept m_ways m_wins)) (by with_unfolding_all rfl) ?_
          replace hf := Option.some.inj hf
          subst hf
          exact kn_Q_ret (v := some (.int (0 : Int32))) (by with_unfolding_all rfl) ⟨rfl, rfl, Or.inl rfl⟩
        · rw [if_neg hc5] at hf
          refine kn_P_steps 7 (f1 := (43, [(3, .int (0 : Int32)), (2, .int q2.2.2), (1, .int (f_X7_kindBy q1.1)), (0, .ref 35)], [.int (47 : Int32), .ref 35])) (h1 := (kn_hp L xs r_t_kinds r_t_holds r_t_barred r_t_parties r_t_size r_p_numbers r_p_size r_firms r_tied r_wars r_wet r_day r_drawn k_t_kinds k_t_holds k_t_barred k_t_parties k_t_size k_p_numbers k_p_size k_firms k_tied k_wars k_wet k_day k_drawn f_depths f_bars f_ways d_letters d_t_kinds d_t_holds d_t_barred d_t_parties d_t_size d_size d_at s_lanes s_sizes s_items isKept m_lane m_size m_item m_letters m_tape q2.2.1 q2.2.2 m_now m_tried m_read m_kept m_isKept m_ways m_wins)) (by with_unfolding_all rfl) ?_
          cases e6 : f_X7_isSign m_letters m_tape q2.2.1 (47 : Int32) with
          | none => rw [e6] at hf; cases hf
          | some q3 =>
            rw [e6] at hf
            dsimp only at hf
            refine kn_Q_call (M1 := km_X7_isSign) (j := 122) (as := [.ref 35, .int (47 : Int32)]) (f1 := (46, [(3, .int (0 : Int32)), (2, .int q2.2.2), (1, .int (f_X7_kindBy q1.1)), (0, .ref 35)], [])) (f0 := (0, [(0, .ref 35), (1, .int (47 : Int32))], [])) (by with_unfolding_all rfl) (by with_unfolding_all rfl) (by with_unfolding_all rfl) (mt_X7_isSign e6) (fun v9 h9 q9 => ?_)
            obtain ⟨rfl, rfl, hz7⟩ := q9
            refine kn_Q_if (c := q3.1 = (0 : Int32)) (t := 129) (n := 49) (l1 := [(3, .int (0 : Int32)), (2, .int q2.2.2), (1, .int (f_X7_kindBy q1.1)), (0, .ref 35)]) (s1 := []) (by with_unfolding_all rfl) (fun hc8 => ?_) (fun hc8 => ?_)
            · rw [if_pos hc8] at hf
              refine kn_P_steps 4 (f1 := (135, [(4, .int (0 : Int32)), (3, .int (0 : Int32)), (2, .int q2.2.2), (1, .int (f_X7_kindBy q1.1)), (0, .ref 35)], [.int (64 : Int32), .ref 35])) (h1 := (kn_hp L xs r_t_kinds r_t_holds r_t_barred r_t_parties r_t_size r_p_numbers r_p_size r_firms r_tied r_wars r_wet r_day r_drawn k_t_kinds k_t_holds k_t_barred k_t_parties k_t_size k_p_numbers k_p_size k_firms k_tied k_wars k_wet k_day k_drawn f_depths f_bars f_ways d_letters d_t_kinds d_t_holds d_t_barred d_t_parties d_t_size d_size d_at s_lanes s_sizes s_items isKept m_lane m_size m_item m_letters m_tape q3.2 q2.2.2 m_now m_tried m_read m_kept m_isKept m_ways m_wins)) (by with_unfolding_all rfl) ?_
              cases e9 : f_X7_isSign m_letters m_tape q3.2 (64 : Int32) with
              | none => rw [e9] at hf; cases hf
              | some q4 =>
                rw [e9] at hf
                dsimp only at hf
                refine kn_Q_call (M1 := km_X7_isSign) (j := 122) (as := [.ref 35, .int (64 : Int32)]) (f1 := (138, [(4, .int (0 : Int32)), (3, .int (0 : Int32)), (2, .int q2.2.2), (1, .int (f_X7_kindBy q1.1)), (0, .ref 35)], [])) (f0 := (0, [(0, .ref 35), (1, .int (64 : Int32))], [])) (by with_unfolding_all rfl) (by with_unfolding_all rfl) (by with_unfolding_all rfl) (mt_X7_isSign e9) (fun v9 h9 q9 => ?_)
                obtain ⟨rfl, rfl, hz10⟩ := q9
                refine kn_Q_if (c := q4.1 = (0 : Int32)) (t := 158) (n := 141) (l1 := [(4, .int (0 : Int32)), (3, .int (0 : Int32)), (2, .int q2.2.2), (1, .int (f_X7_kindBy q1.1)), (0, .ref 35)]) (s1 := []) (by with_unfolding_all rfl) (fun hc11 => ?_) (fun hc11 => ?_)
                · rw [if_pos hc11] at hf
                  refine kn_P_steps 6 (f1 := (167, [(4, .int (0 : Int32)), (3, .int (0 : Int32)), (2, .int q2.2.2), (1, .int (f_X7_kindBy q1.1)), (0, .ref 35)], [.int (0 : Int32), .int (0 : Int32), .int q2.2.2, .int (f_X7_kindBy q1.1), .ref 42])) (h1 := (kn_hp L xs r_t_kinds r_t_holds r_t_barred r_t_parties r_t_size r_p_numbers r_p_size r_firms r_tied r_wars r_wet r_day r_drawn k_t_kinds k_t_holds k_t_barred k_t_parties k_t_size k_p_numbers k_p_size k_firms k_tied k_wars k_wet k_day k_drawn f_depths f_bars f_ways d_letters d_t_kinds d_t_holds d_t_barred d_t_parties d_t_size d_size d_at s_lanes s_sizes s_items isKept m_lane m_size m_item m_letters m_tape q4.2 q2.2.2 m_now m_tried m_read m_kept m_isKept m_ways m_wins)) (by with_unfolding_all rfl) ?_
                  cases e12 : f_X7_add_1 m_read (f_X7_kindBy q1.1) q2.2.2 (0 : Int32) (0 : Int32) with
                  | none => rw [e12] at hf; cases hf
                  | some q5 =>
                    rw [e12] at hf
                    dsimp only at hf
                    refine kn_Q_call (M1 := km_X7_add) (j := 111) (as := [.ref 42, .int (f_X7_kindBy q1.1), .int q2.2.2, .int (0 : Int32), .int (0 : Int32)]) (f1 := (170, [(4, .int (0 : Int32)), (3, .int (0 : Int32)), (2, .int q2.2.2), (1, .int (f_X7_kindBy q1.1)), (0, .ref 35)], [])) (f0 := (0, [(0, .ref 42), (1, .int (f_X7_kindBy q1.1)), (2, .int q2.2.2), (3, .int (0 : Int32)), (4, .int (0 : Int32))], [])) (by with_unfolding_all rfl) (by with_unfolding_all rfl) (by with_unfolding_all rfl) (mt_X7_add_1 e12) (fun v9 h9 q9 => ?_)
                    obtain ⟨rfl, rfl⟩ := q9
                    refine kn_P_steps 2 (f1 := (172, [(4, .int (0 : Int32)), (3, .int (0 : Int32)), (2, .int q2.2.2), (1, .int (f_X7_kindBy q1.1)), (0, .ref 35)], [.int (1 : Int32)])) (h1 := (kn_hp L xs r_t_kinds r_t_holds r_t_barred r_t_parties r_t_size r_p_numbers r_p_size r_firms r_tied r_wars r_wet r_day r_drawn k_t_kinds k_t_holds k_t_barred k_t_parties k_t_size k_p_numbers k_p_size k_firms k_tied k_wars k_wet k_day k_drawn f_depths f_bars f_ways d_letters d_t_kinds d_t_holds d_t_barred d_t_parties d_t_size d_size d_at s_lanes s_sizes s_items isKept m_lane m_size m_item m_letters m_tape q4.2 q2.2.2 m_now m_tried q5.2 m_kept m_isKept m_ways m_wins)) (by with_unfolding_all rfl) ?_
                    replace hf := Option.some.inj hf
                    subst hf
                    exact kn_Q_ret (v := some (.int (1 : Int32))) (by with_unfolding_all rfl) ⟨rfl, rfl, Or.inr rfl⟩
                · rw [if_neg hc11] at hf
                  refine kn_P_steps 3 (f1 := (144, [(4, .int (0 : Int32)), (3, .int (0 : Int32)), (2, .int q2.2.2), (1, .int (f_X7_kindBy q1.1)), (0, .ref 35)], [.int (3 : Int32), .int (0 : Int32), .ref 35])) (h1 := (kn_hp L xs r_t_kinds r_t_holds r_t_barred r_t_parties r_t_size r_p_numbers r_p_size r_firms r_tied r_wars r_wet r_day r_drawn k_t_kinds k_t_holds k_t_barred k_t_parties k_t_size k_p_numbers k_p_size k_firms k_tied k_wars k_wet k_day k_drawn f_depths f_bars f_ways d_letters d_t_kinds d_t_holds d_t_barred d_t_parties d_t_size d_size d_at s_lanes s_sizes s_items isKept m_lane m_size m_item m_letters m_tape q4.2 q2.2.2 m_now m_tried m_read m_kept m_isKept m_ways m_wins)) (by with_unfolding_all rfl) ?_
                  cases e13 : f_X7_isDigit m_letters m_tape q4.2 q2.2.2 (0 : Int32) (3 : Int32) with
                  | none => rw [e13] at hf; cases hf
                  | some q6 =>
                    rw [e13] at hf
                    dsimp only at hf
                    refine kn_Q_call (M1 := km_X7_isDigit) (j := 123) (as := [.ref 35, .int (0 : Int32), .int (3 : Int32)]) (f1 := (147, [(4, .int (0 : Int32)), (3, .int (0 : Int32)), (2, .int q2.2.2), (1, .int (f_X7_kindBy q1.1)), (0, .ref 35)], [])) (f0 := (0, [(0, .ref 35), (1, .int (0 : Int32)), (2, .int (3 : Int32))], [])) (by with_unfolding_all rfl) (by with_unfolding_all rfl) (by with_unfolding_all rfl) (mt_X7_isDigit e13) (fun v9 h9 q9 => ?_)
                    obtain ⟨rfl, rfl, hz14⟩ := q9
                    refine kn_Q_if (c := q6.1 = (0 : Int32)) (t := 150) (n := 152) (l1 := [(4, .int (0 : Int32)), (3, .int (0 : Int32)), (2, .int q2.2.2), (1, .int (f_X7_kindBy q1.1)), (0, .ref 35)]) (s1 := []) (by with_unfolding_all rfl) (fun hc15 => ?_) (fun hc15 => ?_)
                    · rw [if_pos hc15] at hf
                      refine kn_P_steps 1 (f1 := (151, [(4, .int (0 : Int32)), (3, .int (0 : Int32)), (2, .int q2.2.2), (1, .int (f_X7_kindBy q1.1)), (0, .ref 35)], [.int (0 : Int32)])) (h1 := (kn_hp L xs r_t_kinds r_t_holds r_t_barred r_t_parties r_t_size r_p_numbers r_p_size r_firms r_tied r_wars r_wet r_day r_drawn k_t_kinds k_t_holds k_t_barred k_t_parties k_t_size k_p_numbers k_p_size k_firms k_tied k_wars k_wet k_day k_drawn f_depths f_bars f_ways d_letters d_t_kinds d_t_holds d_t_barred d_t_parties d_t_size d_size d_at s_lanes s_sizes s_items isKept m_lane m_size m_item m_letters m_tape q6.2.1 q6.2.2 m_now m_tried m_read m_kept m_isKept m_ways m_wins)) (by with_unfolding_all rfl) ?_
                      replace hf := Option.some.inj hf
                      subst hf
                      exact kn_Q_ret (v := some (.int (0 : Int32))) (by with_unfolding_all rfl) ⟨rfl, rfl, Or.inl rfl⟩
                    · rw [if_neg hc15] at hf
                      refine kn_P_steps 9 (f1 := (167, [(4, .int q6.2.2), (3, .int (0 : Int32)), (2, .int q2.2.2), (1, .int (f_X7_kindBy q1.1)), (0, .ref 35)], [.int q6.2.2, .int (0 : Int32), .int q2.2.2, .int (f_X7_kindBy q1.1), .ref 42])) (h1 := (kn_hp L xs r_t_kinds r_t_holds r_t_barred r_t_parties r_t_size r_p_numbers r_p_size r_firms r_tied r_wars r_wet r_day r_drawn k_t_kinds k_t_holds k_t_barred k_t_parties k_t_size k_p_numbers k_p_size k_firms k_tied k_wars k_wet k_day k_drawn f_depths f_bars f_ways d_letters d_t_kinds d_t_holds d_t_barred d_t_parties d_t_size d_size d_at s_lanes s_sizes s_items isKept m_lane m_size m_item m_letters m_tape q6.2.1 q6.2.2 m_now m_tried m_read m_kept m_isKept m_ways m_wins)) (by with_unfolding_all rfl) ?_
                      cases e16 : f_X7_add_1 m_read (f_X7_kindBy q1.1) q2.2.2 (0 : Int32) q6.2.2 with
                      | none => rw [e16] at hf; cases hf
                      | some q7 =>
                        rw [e16] at hf
                        dsimp only at hf
                        refine kn_Q_call (M1 := km_X7_add) (j := 111) (as := [.ref 42, .int (f_X7_kindBy q1.1), .int q2.2.2, .int (0 : Int32), .int q6.2.2]) (f1 := (170, [(4, .int q6.2.2), (3, .int (0 : Int32)), (2, .int q2.2.2), (1, .int (f_X7_kindBy q1.1)), (0, .ref 35)], [])) (f0 := (0, [(0, .ref 42), (1, .int (f_X7_kindBy q1.1)), (2, .int q2.2.2), (3, .int (0 : Int32)), (4, .int q6.2.2)], [])) (by with_unfolding_all rfl) (by with_unfolding_all rfl) (by with_unfolding_all rfl) (mt_X7_add_1 e16) (fun v9 h9 q9 => ?_)
                        obtain ⟨rfl, rfl⟩ := q9
                        refine kn_P_steps 2 (f1 := (172, [(4, .int q6.2.2), (3, .int (0 : Int32)), (2, .int q2.2.2), (1, .int (f_X7_kindBy q1.1)), (0, .ref 35)], [.int (1 : Int32)])) (h1 := (kn_hp L xs r_t_kinds r_t_holds r_t_barred r_t_parties r_t_size r_p_numbers r_p_size r_firms r_tied r_wars r_wet r_day r_drawn k_t_kinds k_t_holds k_t_barred k_t_parties k_t_size k_p_numbers k_p_size k_firms k_tied k_wars k_wet k_day k_drawn f_depths f_bars f_ways d_letters d_t_kinds d_t_holds d_t_barred d_t_parties d_t_size d_size d_at s_lanes s_sizes s_items isKept m_lane m_size m_item m_letters m_tape q6.2.1 q6.2.2 m_now m_tried q7.2 m_kept m_isKept m_ways m_wins)) (by with_unfolding_all rfl) ?_
                        replace hf := Option.some.inj hf
                        subst hf
                        exact kn_Q_ret (v := some (.int (1 : Int32))) (by with_unfolding_all rfl) ⟨rfl, rfl, Or.inr rfl⟩
            · rw [if_neg hc8] at hf
              refine kn_P_steps 8 (f1 := (59, [(3, .int (0 : Int32)), (2, .int q2.2.2), (1, .int (f_X7_kindBy q1.1)), (0, .ref 35)], [.int ((m_read 5) - (1 : Int32)), .int (0 : Int32), .ref 35])) (h1 := (kn_hp L xs r_t_kinds r_t_holds r_t_barred r_t_parties r_t_size r_p_numbers r_p_size r_firms r_tied r_wars r_wet r_day r_drawn k_t_kinds k_t_holds k_t_barred k_t_parties k_t_size k_p_numbers k_p_size k_firms k_tied k_wars k_wet k_day k_drawn f_depths f_bars f_ways d_letters d_t_kinds d_t_holds d_t_barred d_t_parties d_t_size d_size d_at s_lanes s_sizes s_items isKept m_lane m_size m_item m_letters m_tape q3.2 q2.2.2 m_now m_tried m_read m_kept m_isKept m_ways m_wins)) (by with_unfolding_all rfl) ?_
              cases e17 : f_X7_isDigit m_letters m_tape q3.2 q2.2.2 (0 : Int32) ((m_read 5) - (1 : Int32)) with
              | none => rw [e17] at hf; cases hf
              | some q8 =>
                rw [e17] at hf
                dsimp only at hf
                refine kn_Q_call (M1 := km_X7_isDigit) (j := 123) (as := [.ref 35, .int (0 : Int32), .int ((m_read 5) - (1 : Int32))]) (f1 := (62, [(3, .int (0 : Int32)), (2, .int q2.2.2), (1, .int (f_X7_kindBy q1.1)), (0, .ref 35)], [])) (f0 := (0, [(0, .ref 35), (1, .int (0 : Int32)), (2, .int ((m_read 5) - (1 : Int32)))], [])) (by with_unfolding_all rfl) (by with_unfolding_all rfl) (by with_unfolding_all rfl) (mt_X7_isDigit e17) (fun v9 h9 q9 => ?_)
                obtain ⟨rfl, rfl, hz18⟩ := q9
                refine kn_Q_if (c := q8.1 = (0 : Int32)) (t := 65) (n := 67) (l1 := [(3, .int (0 : Int32)), (2, .int q2.2.2), (1, .int (f_X7_kindBy q1.1)), (0, .ref 35)]) (s1 := []) (by with_unfolding_all rfl) (fun hc19 => ?_) (fun hc19 => ?_)
                · rw [if_pos hc19] at hf
                  refine kn_P_steps 1 (f1 := (66, [(3, .int (0 : Int32)), (2, .int q2.2.2), (1, .int (f_X7_kindBy q1.1)), (0, .ref 35)], [.int (0 : Int32)])) (h1 := (kn_hp L xs r_t_kinds r_t_holds r_t_barred r_t_parties r_t_size r_p_numbers r_p_size r_firms r_tied r_wars r_wet r_day r_drawn k_t_kinds k_t_holds k_t_barred k_t_parties k_t_size k_p_numbers k_p_size k_firms k_tied k_wars k_wet k_day k_drawn f_depths f_bars f_ways d_letters d_t_kinds d_t_holds d_t_barred d_t_parties d_t_size d_size d_at s_lanes s_sizes s_items isKept m_lane m_size m_item m_letters m_tape q8.2.1 q8.2.2 m_now m_tried m_read m_kept m_isKept m_ways m_wins)) (by with_unfolding_all rfl) ?_
                  replace hf := Option.some.inj hf
                  subst hf
                  exact kn_Q_ret (v := some (.int (0 : Int32))) (by with_unfolding_all rfl) ⟨rfl, rfl, Or.inl rfl⟩
                · rw [if_neg hc19] at hf
                  refine kn_P_steps 7 (f1 := (78, [(3, .int ((1 : Int32) <<< (q8.2.2 &&& (31 : Int32)))), (4, .int q8.2.2), (2, .int q2.2.2), (1, .int (f_X7_kindBy q1.1)), (0, .ref 35)], [])) (h1 := (kn_hp L xs r_t_kinds r_t_holds r_t_barred r_t_parties r_t_size r_p_numbers r_p_size r_firms r_tied r_wars r_wet r_day r_drawn k_t_kinds k_t_holds k_t_barred k_t_parties k_t_size k_p_numbers k_p_size k_firms k_tied k_wars k_wet k_day k_drawn f_depths f_bars f_ways d_letters d_t_kinds d_t_holds d_t_barred d_t_parties d_t_size d_size d_at s_lanes s_sizes s_items isKept m_lane m_size m_item m_letters m_tape q8.2.1 q8.2.2 m_now m_tried m_read m_kept m_isKept m_ways m_wins)) (by with_unfolding_all rfl) ?_
                  refine kn_P_pick [4, 3, 2, 0, 1] (l1 := [(0, .ref 35), (1, .int (f_X7_kindBy q1.1)), (2, .int q2.2.2), (3, .int ((1 : Int32) <<< (q8.2.2 &&& (31 : Int32)))), (4, .int q8.2.2)]) (by with_unfolding_all rfl) (by with_unfolding_all rfl) ?_
                  exact ml_X7_isClauseItem_78  300 _ _ _ _ _ _ _ _ _ _ hf
    · rw [if_neg hc2] at hf
      refine kn_P_steps 1 (f1 := (13, [(1, .int (f_X7_kindBy q1.1)), (0, .ref 35)], [.int (0 : Int32)])) (h1 := (kn_hp L xs r_t_kinds r_t_holds r_t_barred r_t_parties r_t_size r_p_numbers r_p_size r_firms r_tied r_wars r_wet r_day r_drawn k_t_kinds k_t_holds k_t_barred k_t_parties k_t_size k_p_numbers k_p_size k_firms k_tied k_wars k_wet k_day k_drawn f_depths f_bars f_ways d_letters d_t_kinds d_t_holds d_t_barred d_t_parties d_t_size d_size d_at s_lanes s_sizes s_items isKept m_lane m_size m_item m_letters m_tape q1.2 m_number m_now m_tried m_read m_kept m_isKept m_ways m_wins)) (by with_unfolding_all rfl) ?_
      replace hf := Option.some.inj hf
      subst hf
      exact kn_Q_ret (v := some (.int (0 : Int32))) (by with_unfolding_all rfl) ⟨rfl, rfl, Or.inl rfl⟩
set_option maxRecDepth 100000 in
set_option maxHeartbeats 4000000 in
theorem ml_X7_isAgreement_2 : ∀ (n : Nat) (m_letters : Int32) (m_tape : (Nat → Int32)) (m_position : Int32) (m_number : Int32) (m_read : (Nat → Int32)) (v1 : Int32) (r9 : Int32 × Int32 × Int32 × (Nat → Int32)), fl_X7_isAgreement_2 n m_letters m_tape m_position m_number m_read v1 = some r9 → kn_Post kn_T km_X7_isAgreement (2, [(0, .ref 35), (1, .int v1)], []) (kn_hp L xs r_t_kinds r_t_holds r_t_barred r_t_parties r_t_size r_p_numbers r_p_size r_firms r_tied r_wars r_wet r_day r_drawn k_t_kinds k_t_holds k_t_barred k_t_parties k_t_size k_p_numbers k_p_size k_firms k_tied k_wars k_wet k_day k_drawn f_depths f_bars f_ways d_letters d_t_kinds d_t_holds d_t_barred d_t_parties d_t_size d_size d_at s_lanes s_sizes s_items isKept m_lane m_size m_item m_letters m_tape m_position m_number m_now m_tried m_read m_kept m_isKept m_ways m_wins) (fun v9 h9 => v9 = some (.int r9.1) ∧ h9 = (kn_hp L xs r_t_kinds r_t_holds r_t_barred r_t_parties r_t_size r_p_numbers r_p_size r_firms r_tied r_wars r_wet r_day r_drawn k_t_kinds k_t_holds k_t_barred k_t_parties k_t_size k_p_numbers k_p_size k_firms k_tied k_wars k_wet k_day k_drawn f_depths f_bars f_ways d_letters d_t_kinds d_t_holds d_t_barred d_t_parties d_t_size d_size d_at s_lanes s_sizes s_items isKept m_lane m_size m_item m_letters m_tape r9.2.1 r9.2.2.1 m_now m_tried r9.2.2.2 m_kept m_isKept m_ways m_wins) ∧ (r9.1 = 0 ∨ r9.1 = 1)) := by
  intro n
  induction n with
  | zero => intro m_letters m_tape m_position m_number m_read v1 r9 hf; cases hf
  | succ n ih =>
    intro m_letters m_tape m_position m_number m_read v1 r9 hf
    rw [fl_X7_isAgreement_2] at hf
    refine kn_P_steps 1 (f1 := (3, [(0, .ref 35), (1, .int v1)], [.int v1])) (h1 := (kn_hp L xs r_t_kinds r_t_holds r_t_barred r_t_parties r_t_size r_p_numbers r_p_size r_firms r_tied r_wars r_wet r_day r_drawn k_t_kinds k_t_holds k_t_barred k_t_parties k_t_size k_p_numbers k_p_size k_firms k_tied k_wars k_wet k_day k_drawn f_depths f_bars f_ways d_letters d_t_kinds d_t_holds d_t_barred d_t_parties d_t_size d_size d_at s_lanes s_sizes s_items isKept m_lane m_size m_item m_letters m_tape m_position m_number m_now m_tried m_read m_kept m_isKept m_ways m_wins)) (by with_unfolding_all rfl) ?_
    refine kn_Q_if (c := v1 = (0 : Int32)) (t := 44) (n := 6) (l1 := [(0, .ref 35), (1, .int v1)]) (s1 := []) (by with_unfolding_all rfl) (fun hc1 => ?_) (fun hc1 => ?_)
    · rw [if_pos hc1] at hf
      refine kn_P_steps 1 (f1 := (45, [(0, .ref 35), (1, .int v1)], [.ref 35])) (h1 := (kn_hp L xs r_t_kinds r_t_holds r_t_barred r_t_parties r_t_size r_p_numbers r_p_size r_firms r_tied r_wars r_wet r_day r_drawn k_t_kinds k_t_holds k_t_barred k_t_parties k_t_size k_p_numbers k_p_size k_firms k_tied k_wars k_wet k_day k_drawn f_depths f_bars f_ways d_letters d_t_kinds d_t_holds d_t_barred d_t_parties d_t_size d_size d_at s_lanes s_sizes s_items isKept m_lane m_size m_item m_letters m_tape m_position m_number m_now m_tried m_read m_kept m_isKept m_ways m_wins)) (by with_unfolding_all rfl) ?_
      cases e2 : f_X7_peek m_letters m_tape m_position with
      | none => rw [e2] at hf; cases hf
      | some q1 =>
        rw [e2] at hf
        dsimp only at hf
        refine kn_Q_call (M1 := km_X7_peek) (j := 121) (as := [.ref 35]) (f1 := (48, [(0, .ref 35), (1, .int v1)], [])) (f0 := (0, [(0, .ref 35)], [])) (by with_unfolding_all rfl) (by with_unfolding_all rfl) (by with_unfolding_all rfl) (mt_X7_peek e2) (fun v9 h9 q9 => ?_)
        obtain ⟨rfl, rfl⟩ := q9
        refine kn_Q_if (c := q1.1 = (0 : Int32)) (t := 51) (n := 55) (l1 := [(0, .ref 35), (1, .int v1)]) (s1 := []) (by with_unfolding_all rfl) (fun hc3 => ?_) (fun hc3 => ?_)
        · rw [if_pos hc3] at hf
          refine kn_P_steps 2 (f1 := (56, [(0, .ref 35), (1, .int v1)], [.int (1 : Int32)])) (h1 := (kn_hp L xs r_t_kinds r_t_holds r_t_barred r_t_parties r_t_size r_p_numbers r_p_size r_firms r_tied r_wars r_wet r_day r_drawn k_t_kinds k_t_holds k_t_barred k_t_parties k_t_size k_p_numbers k_p_size k_firms k_tied k_wars k_wet k_day k_drawn f_depths f_bars f_ways d_letters d_t_kinds d_t_holds d_t_barred d_t_parties d_t_size d_size d_at s_lanes s_sizes s_items isKept m_lane m_size m_item m_letters m_tape q1.2 m_number m_now m_tried m_read m_kept m_isKept m_ways m_wins)) (by with_unfolding_all rfl) ?_
          replace hf := Option.some.inj hf
          subst hf
          exact kn_Q_ret (v := some (.int (1 : Int32))) (by with_unfolding_all rfl) ⟨rfl, rfl, Or.inr rfl⟩
        · rw [if_neg hc3] at hf
          refine kn_P_steps 1 (f1 := (56, [(0, .ref 35), (1, .int v1)], [.int (0 : Int32)])) (h1 := (kn_hp L xs r_t_kinds r_t_holds r_t_barred r_t_parties r_t_size r_p_numbers r_p_size r_firms r_tied r_wars r_wet r_day r_drawn k_t_kinds k_t_holds k_t_barred k_t_parties k_t_size k_p_numbers k_p_size k_firms k_tied k_wars k_wet k_day k_drawn f_depths f_bars f_ways d_letters d_t_kinds d_t_holds d_t_barred d_t_parties d_t_size d_size d_at s_lanes s_sizes s_items isKept m_lane m_size m_item m_letters m_tape q1.2 m_number m_now m_tried m_read m_kept m_isKept m_ways m_wins)) (by with_unfolding_all rfl) ?_
          replace hf := Option.some.inj hf
          subst hf
          exact kn_Q_ret (v := some (.int (0 : Int32))) (by with_unfolding_all rfl) ⟨rfl, rfl, Or.inl rfl⟩
    · rw [if_neg hc1] at hf
      refine kn_P_steps 1 (f1 := (7, [(0, .ref 35), (1, .int v1)], [.ref 35])) (h1 := (kn_hp L xs r_t_kinds r_t_holds r_t_barred r_t_parties r_t_size r_p_numbers r_p_size r_firms r_tied r_wars r_wet r_day r_drawn k_t_kinds k_t_holds k_t_barred k_t_parties k_t_size k_p_numbers k_p_size k_firms k_tied k_wars k_wet k_day k_drawn f_depths f_bars f_ways d_letters d_t_kinds d_t_holds d_t_barred d_t_parties d_t_size d_size d_at s_lanes s_sizes s_items isKept m_lane m_size m_item m_letters m_tape m_position m_number m_now m_tried m_read m_kept m_isKept m_ways m_wins)) (by with_unfolding_all rfl) ?_
      cases e4 : f_X7_isClauseItem m_letters m_tape m_position m_number m_read with
      | none => rw [e4] at hf; cases hf
      | some q2 =>
        rw [e4] at hf
        dsimp only at hf
        refine kn_Q_call (M1 := km_X7_isClauseItem) (j := 126) (as := [.ref 35]) (f1 := (10, [(0, .ref 35), (1, .int v1)], [])) (f0 := (0, [(0, .ref 35)], [])) (by with_unfolding_all rfl) (by with_unfolding_all rfl) (by with_unfolding_all rfl) (mt_X7_isClauseItem e4) (fun v9 h9 q9 => ?_)
        obtain ⟨rfl, rfl, hz5⟩ := q9
        refine kn_Q_if (c := q2.1 = (0 : Int32)) (t := 13) (n := 15) (l1 := [(0, .ref 35), (1, .int v1)]) (s1 := []) (by with_unfolding_all rfl) (fun hc6 => ?_) (fun hc6 => ?_)
        · rw [if_pos hc6] at hf
          refine kn_P_steps 1 (f1 := (14, [(0, .ref 35), (1, .int v1)], [.int (0 : Int32)])) (h1 := (kn_hp L xs r_t_kinds r_t_holds r_t_barred r_t_parties r_t_size r_p_numbers r_p_size r_firms r_tied r_wars r_wet r_day r_drawn k_t_kinds k_t_holds k_t_barred k_t_parties k_t_size k_p_numbers k_p_size k_firms k_tied k_wars k_wet k_day k_drawn f_depths f_bars f_ways d_letters d_t_kinds d_t_holds d_t_barred d_t_parties d_t_size d_size d_at s_lanes s_sizes s_items isKept m_lane m_size m_item m_letters m_tape q2.2.1 q2.2.2.1 m_now m_tried q2.2.2.2 m_kept m_isKept m_ways m_wins)) (by with_unfolding_all rfl) ?_
          replace hf := Option.some.inj hf
          subst hf
          exact kn_Q_ret (v := some (.int (0 : Int32))) (by with_unfolding_all rfl) ⟨rfl, rfl, Or.inl rfl⟩
        · rw [if_neg hc6] at hf
          refine kn_P_steps 5 (f1 := (23, [(0, .ref 35), (1, .int v1)], [.int (8 : Int32), .int (q2.2.2.2 5)])) (h1 := (kn_hp L xs r_t_kinds r_t_holds r_t_barred r_t_parties r_t_size r_p_numbers r_p_size r_firms r_tied r_wars r_wet r_day r_drawn k_t_kinds k_t_holds k_t_barred k_t_parties k_t_size k_p_numbers k_p_size k_firms k_tied k_wars k_wet k_day k_drawn f_depths f_bars f_ways d_letters d_t_kinds d_t_holds d_t_barred d_t_parties d_t_size d_size d_at s_lanes s_sizes s_items isKept m_lane m_size m_item m_letters m_tape q2.2.1 q2.2.2.1 m_now m_tried q2.2.2.2 m_kept m_isKept m_ways m_wins)) (by with_unfolding_all rfl) ?_
          refine kn_Q_if (c := (8 : Int32) ≤ (q2.2.2.2 5)) (t := 39) (n := 26) (l1 := [(0, .ref 35), (1, .int v1)]) (s1 := []) (by with_unfolding_all rfl) (fun hc7 => ?_) (fun hc7 => ?_)
          · rw [if_pos hc7] at hf
            refine kn_P_steps 3 (f1 := (2, [(1, .int (0 : Int32)), (0, .ref 35)], [])) (h1 := (kn_hp L xs r_t_kinds r_t_holds r_t_barred r_t_parties r_t_size r_p_numbers r_p_size r_firms r_tied r_wars r_wet r_day r_drawn k_t_kinds k_t_holds k_t_barred k_t_parties k_t_size k_p_numbers k_p_size k_firms k_tied k_wars k_wet k_day k_drawn f_depths f_bars f_ways d_letters d_t_kinds d_t_holds d_t_barred d_t_parties d_t_size d_size d_at s_lanes s_sizes s_items isKept m_lane m_size m_item m_letters m_tape q2.2.1 q2.2.2.1 m_now m_tried q2.2.2.2 m_kept m_isKept m_ways m_wins)) (by with_unfolding_all rfl) ?_
            refine kn_P_pick [1, 0] (l1 := [(0, .ref 35), (1, .int (0 : Int32))]) (by with_unfolding_all rfl) (by with_unfolding_all rfl) ?_
            exact ih _ _ _ _ _ _ _ hf
          · rw [if_neg hc7] at hf
            refine kn_P_steps 2 (f1 := (29, [(0, .ref 35), (1, .int v1)], [.int (44 : Int32), .ref 35])) (h1 := (kn_hp L xs r_t_kinds r_t_holds r_t_barred r_t_parties r_t_size r_p_numbers r_p_size r_firms r_tied r_wars r_wet r_day r_drawn k_t_kinds k_t_holds k_t_barred k_t_parties k_t_size k_p_numbers k_p_size k_firms k_tied k_wars k_wet k_day k_drawn f_depths f_bars f_ways d_letters d_t_kinds d_t_holds d_t_barred d_t_parties d_t_size d_size d_at s_lanes s_sizes s_items isKept m_lane m_size m_item m_letters m_tape q2.2.1 q2.2.2.1 m_now m_tried q2.2.2.2 m_kept m_isKept m_ways m_wins)) (by with_unfolding_all rfl) ?_
            cases e8 : f_X7_isSign m_letters m_tape q2.2.1 (44 : Int32) with
            | none => rw [e8] at hf; cases hf
            | some q3 =>
              rw [e8] at hf
              dsimp only at hf
              refine kn_Q_call (M1 := km_X7_isSign) (j := 122) (as := [.ref 35, .int (44 : Int32)]) (f1 := (32, [(0, .ref 35), (1, .int v1)], [])) (f0 := (0, [(0, .ref 35), (1, .int (44 : Int32))], [])) (by with_unfolding_all rfl) (by with_unfolding_all rfl) (by with_unfolding_all rfl) (mt_X7_isSign e8) (fun v9 h9 q9 => ?_)
              obtain ⟨rfl, rfl, hz9⟩ := q9
              refine kn_Q_if (c := q3.1 = (0 : Int32)) (t := 39) (n := 35) (l1 := [(0, .ref 35), (1, .int v1)]) (s1 := []) (by with_unfolding_all rfl) (fun hc10 => ?_) (fun hc10 => ?_)
              · rw [if_pos hc10] at hf
                refine kn_P_steps 3 (f1 := (2, [(1, .int (0 : Int32)), (0, .ref 35)], [])) (h1 := (kn_hp L xs r_t_kinds r_t_holds r_t_barred r_t_parties r_t_size r_p_numbers r_p_size r_firms r_tied r_wars r_wet r_day r_drawn k_t_kinds k_t_holds k_t_barred k_t_parties k_t_size k_p_numbers k_p_size k_firms k_tied k_wars k_wet k_day k_drawn f_depths f_bars f_ways d_letters d_t_kinds d_t_holds d_t_barred d_t_parties d_t_size d_size d_at s_lanes s_sizes s_items isKept m_lane m_size m_item m_letters m_tape q3.2 q2.2.2.1 m_now m_tried q2.2.2.2 m_kept m_isKept m_ways m_wins)) (by with_unfolding_all rfl) ?_
                refine kn_P_pick [1, 0] (l1 := [(0, .ref 35), (1, .int (0 : Int32))]) (by with_unfolding_all rfl) (by with_unfolding_all rfl) ?_
                exact ih _ _ _ _ _ _ _ hf
              · rw [if_neg hc10] at hf
                refine kn_P_steps 4 (f1 := (2, [(1, .int (1 : Int32)), (0, .ref 35)], [])) (h1 := (kn_hp L xs r_t_kinds r_t_holds r_t_barred r_t_parties r_t_size r_p_numbers r_p_size r_firms r_tied r_wars r_wet r_day r_drawn k_t_kinds k_t_holds k_t_barred k_t_parties k_t_size k_p_numbers k_p_size k_firms k_tied k_wars k_wet k_day k_drawn f_depths f_bars f_ways d_letters d_t_kinds d_t_holds d_t_barred d_t_parties d_t_size d_size d_at s_lanes s_sizes s_items isKept m_lane m_size m_item m_letters m_tape q3.2 q2.2.2.1 m_now m_tried q2.2.2.2 m_kept m_isKept m_ways m_wins)) (by with_unfolding_all rfl) ?_
                refine kn_P_pick [1, 0] (l1 := [(0, .ref 35), (1, .int (1 : Int32))]) (by with_unfolding_all rfl) (by with_unfolding_all rfl) ?_
                exact ih _ _ _ _ _ _ _ hf
set_option maxRecDepth 100000 in
set_option maxHeartbeats 4000000 in
theorem mt_X7_isAgreement  {r9 : Int32 × Int32 × Int32 × (Nat → Int32)} (hf : f_X7_isAgreement m_letters m_tape m_position m_number m_read = some r9) : kn_Post kn_T km_X7_isAgreement (0, [(0, .ref 35)], []) (kn_hp L xs r_t_kinds r_t_holds r_t_barred r_t_parties r_t_size r_p_numbers r_p_size r_firms r_tied r_wars r_wet r_day r_drawn k_t_kinds k_t_holds k_t_barred k_t_parties k_t_size k_p_numbers k_p_size k_firms k_tied k_wars k_wet k_day k_drawn f_depths f_bars f_ways d_letters d_t_kinds d_t_holds d_t_barred d_t_parties d_t_size d_size d_at s_lanes s_sizes s_items isKept m_lane m_size m_item m_letters m_tape m_position m_number m_now m_tried m_read m_kept m_isKept m_ways m_wins) (fun v9 h9 => v9 = some (.int r9.1) ∧ h9 = (kn_hp L xs r_t_kinds r_t_holds r_t_barred r_t_parties r_t_size r_p_numbers r_p_size r_firms r_tied r_wars r_wet r_day r_drawn k_t_kinds k_t_holds k_t_barred k_t_parties k_t_size k_p_numbers k_p_size k_firms k_tied k_wars k_wet k_day k_drawn f_depths f_bars f_ways d_letters d_t_kinds d_t_holds d_t_barred d_t_parties d_t_size d_size d_at s_lanes s_sizes s_items isKept m_lane m_size m_item m_letters m_tape r9.2.1 r9.2.2.1 m_now m_tried r9.2.2.2 m_kept m_isKept m_ways m_wins) ∧ (r9.1 = 0 ∨ r9.1 = 1)) := by
  unfold f_X7_isAgreement at hf
  refine kn_P_steps 2 (f1 := (2, [(1, .int (1 : Int32)), (0, .ref 35)], [])) (h1 := (kn_hp L xs r_t_kinds r_t_holds r_t_barred r_t_parties r_t_size r_p_numbers r_p_size r_firms r_tied r_wars r_wet r_day r_drawn k_t_kinds k_t_holds k_t_barred k_t_parties k_t_size k_p_numbers k_p_size k_firms k_tied k_wars k_wet k_day k_drawn f_depths f_bars f_ways d_letters d_t_kinds d_t_holds d_t_barred d_t_parties d_t_size d_size d_at s_lanes s_sizes s_items isKept m_lane m_size m_item m_letters m_tape m_position m_number m_now m_tried m_read m_kept m_isKept m_ways m_wins)) (by with_unfolding_all rfl) ?_
  refine kn_P_pick [1, 0] (l1 := [(0, .ref 35), (1, .int (1 : Int32))]) (by with_unfolding_all rfl) (by with_unfolding_all rfl) ?_
  exact ml_X7_isAgreement_2  300 _ _ _ _ _ _ _ hf
set_option maxRecDepth 100000 in
set_option maxHeartbeats 4000000 in
theorem ml_X7_bring_3 : ∀ (n : Nat) (m_now : (Nat → Int32)) (m_read : (Nat → Int32)) (v1 : Int32) (v3 : Int32) (v4 : Int32) (v5 : Int32) (r9 : (Nat → Int32)), fl_X7_bring_3 n m_now m_read v1 v3 v4 v5 = some r9 → kn_Post kn_T km_X7_bring (3, [(0, .ref 42), (1, .int v1), (2, .ref 40), (3, .int v3), (4, .int v4), (5, .int v5)], []) (kn_hp L xs r_t_kinds r_t_holds r_t_barred r_t_parties r_t_size r_p_numbers r_p_size r_firms r_tied r_wars r_wet r_day r_drawn k_t_kinds k_t_holds k_t_barred k_t_parties k_t_size k_p_numbers k_p_size k_firms k_tied k_wars k_wet k_day k_drawn f_depths f_bars f_ways d_letters d_t_kinds d_t_holds d_t_barred d_t_parties d_t_size d_size d_at s_lanes s_sizes s_items isKept m_lane m_size m_item m_letters m_tape m_position m_number m_now m_tried m_read m_kept m_isKept m_ways m_wins) (fun v9 h9 => v9 = none ∧ h9 = (kn_hp L xs r_t_kinds r_t_holds r_t_barred r_t_parties r_t_size r_p_numbers r_p_size r_firms r_tied r_wars r_wet r_day r_drawn k_t_kinds k_t_holds k_t_barred k_t_parties k_t_size k_p_numbers k_p_size k_firms k_tied k_wars k_wet k_day k_drawn f_depths f_bars f_ways d_letters d_t_kinds d_t_holds d_t_barred d_t_parties d_t_size d_size d_at s_lanes s_sizes s_items isKept m_lane m_size m_item m_letters m_tape m_position m_number r9 m_tried m_read m_kept m_isKept m_ways m_wins)) := by
  intro n
  induction n with
  | zero => intro m_now m_read v1 v3 v4 v5 r9 hf; cases hf
  | succ n ih =>
    intro m_now m_read v1 v3 v4 v5 r9 hf
    rw [fl_X7_bring_3] at hf
    refine kn_P_steps 2 (f1 := (7, [(0, .ref 42), (1, .int v1), (2, .ref 40), (3, .int v3), (4, .int v4), (5, .int v5)], [.int v4, .int v5])) (h1 := (kn_hp L xs r_t_kinds r_t_holds r_t_barred r_t_parties r_t_size r_p_numbers r_p_size r_firms r_tied r_wars r_wet r_day r_drawn k_t_kinds k_t_holds k_t_barred k_t_parties k_t_size k_p_numbers k_p_size k_firms k_tied k_wars k_wet k_day k_drawn f_depths f_bars f_ways d_letters d_t_kinds d_t_holds d_t_barred d_t_parties d_t_size d_size d_at s_lanes s_sizes s_items isKept m_lane m_size m_item m_letters m_tape m_position m_number m_now m_tried m_read m_kept m_isKept m_ways m_wins)) (by with_unfolding_all rfl) ?_
    refine kn_Q_if (c := v4 ≤ v5) (t := 28) (n := 10) (l1 := [(0, .ref 42), (1, .int v1), (2, .ref 40), (3, .int v3), (4, .int v4), (5, .int v5)]) (s1 := []) (by with_unfolding_all rfl) (fun hc1 => ?_) (fun hc1 => ?_)
    · rw [if_pos hc1] at hf
      replace hf := Option.some.inj hf
      subst hf
      exact kn_Q_ret (v := none) (by with_unfolding_all rfl) ⟨rfl, rfl⟩
    · rw [if_neg hc1] at hf
      refine kn_P_steps 8 (f1 := (20, [(0, .ref 42), (1, .int v1), (2, .ref 40), (3, .int v3), (4, .int v4), (5, .int v5)], [.int (v1 + v5), .ref 42, .int (v3 + v5), .ref 40])) (h1 := (kn_hp L xs r_t_kinds r_t_holds r_t_barred r_t_parties r_t_size r_p_numbers r_p_size r_firms r_tied r_wars r_wet r_day r_drawn k_t_kinds k_t_holds k_t_barred k_t_parties k_t_size k_p_numbers k_p_size k_firms k_tied k_wars k_wet k_day k_drawn f_depths f_bars f_ways d_letters d_t_kinds d_t_holds d_t_barred d_t_parties d_t_size d_size d_at s_lanes s_sizes s_items isKept m_lane m_size m_item m_letters m_tape m_position m_number m_now m_tried m_read m_kept m_isKept m_ways m_wins)) (by with_unfolding_all rfl) ?_
      by_cases hb2 : (v1 + v5) < 0 ∨ 79 ≤ ((v1 + v5)).toNatClampNeg
      · rw [if_pos hb2] at hf; cases hf
      · rw [if_neg hb2] at hf
        refine kn_Q_ok (c := (v1 + v5) < 0 ∨ 79 ≤ ((v1 + v5)).toNatClampNeg) (t := 21) (l1 := [(0, .ref 42), (1, .int v1), (2, .ref 40), (3, .int v3), (4, .int v4), (5, .int v5)]) (s1 := [.int (m_read ((v1 + v5)).toNatClampNeg), .int (v3 + v5), .ref 40]) (h1 := (kn_hp L xs r_t_kinds r_t_holds r_t_barred r_t_parties r_t_size r_p_numbers r_p_size r_firms r_tied r_wars r_wet r_day r_drawn k_t_kinds k_t_holds k_t_barred k_t_parties k_t_size k_p_numbers k_p_size k_firms k_tied k_wars k_wet k_day k_drawn f_depths f_bars f_ways d_letters d_t_kinds d_t_holds d_t_barred d_t_parties d_t_size d_size d_at s_lanes s_sizes s_items isKept m_lane m_size m_item m_letters m_tape m_position m_number m_now m_tried m_read m_kept m_isKept m_ways m_wins)) (by with_unfolding_all rfl) hb2 ?_
        by_cases hb3 : (v3 + v5) < 0 ∨ 79 ≤ ((v3 + v5)).toNatClampNeg
        · rw [if_pos hb3] at hf; cases hf
        · rw [if_neg hb3] at hf
          refine kn_Q_ok (c := (v3 + v5) < 0 ∨ 79 ≤ ((v3 + v5)).toNatClampNeg) (t := 22) (l1 := [(0, .ref 42), (1, .int v1), (2, .ref 40), (3, .int v3), (4, .int v4), (5, .int v5)]) (s1 := []) (h1 := (kn_hp L xs r_t_kinds r_t_holds r_t_barred r_t_parties r_t_size r_p_numbers r_p_size r_firms r_tied r_wars r_wet r_day r_drawn k_t_kinds k_t_holds k_t_barred k_t_parties k_t_size k_p_numbers k_p_size k_firms k_tied k_wars k_wet k_day k_drawn f_depths f_bars f_ways d_letters d_t_kinds d_t_holds d_t_barred d_t_parties d_t_size d_size d_at s_lanes s_sizes s_items isKept m_lane m_size m_item m_letters m_tape m_position m_number (upd m_now ((v3 + v5)).toNatClampNeg (m_read ((v1 + v5)).toNatClampNeg)) m_tried m_read m_kept m_isKept m_ways m_wins)) (by with_unfolding_all rfl) hb3 ?_
          refine kn_P_steps 2 (f1 := (3, [(5, .int (v5 + (1 : Int32))), (0, .ref 42), (1, .int v1), (2, .ref 40), (3, .int v3), (4, .int v4)], [])) (h1 := (kn_hp L xs r_t_kinds r_t_holds r_t_barred r_t_parties r_t_size r_p_numbers r_p_size r_firms r_tied r_wars r_wet r_day r_drawn k_t_kinds k_t_holds k_t_barred k_t_parties k_t_size k_p_numbers k_p_size k_firms k_tied k_wars k_wet k_day k_drawn f_depths f_bars f_ways d_letters d_t_kinds d_t_holds d_t_barred d_t_parties d_t_size d_size d_at s_lanes s_sizes s_items isKept m_lane m_size m_item m_letters m_tape m_position m_number (upd m_now ((v3 + v5)).toNatClampNeg (m_read ((v1 + v5)).toNatClampNeg)) m_tried m_read m_kept m_isKept m_ways m_wins)) (by with_unfolding_all rfl) ?_
          refine kn_P_pick [1, 2, 3, 4, 5, 0] (l1 := [(0, .ref 42), (1, .int v1), (2, .ref 40), (3, .int v3), (4, .int v4), (5, .int (v5 + (1 : Int32)))]) (by with_unfolding_all rfl) (by with_unfolding_all rfl) ?_
          exact ih _ _ _ _ _ _ _ hf
set_option maxRecDepth 100000 in
set_option maxHeartbeats 4000000 in
theorem mt_X7_bring {p1 : Int32} {p3 : Int32} {p4 : Int32} {r9 : (Nat → Int32)} (hf : f_X7_bring m_now m_read p1 p3 p4 = some r9) : kn_Post kn_T km_X7_bring (0, [(0, .ref 42), (1, .int p1), (2, .ref 40), (3, .int p3), (4, .int p4)], []) (kn_hp L xs r_t_kinds r_t_holds r_t_barred r_t_parties r_t_size r_p_numbers r_p_size r_firms r_tied r_wars r_wet r_day r_drawn k_t_kinds k_t_holds k_t_barred k_t_parties k_t_size k_p_numbers k_p_size k_firms k_tied k_wars k_wet k_day k_drawn f_depths f_bars f_ways d_letters d_t_kinds d_t_holds d_t_barred d_t_parties d_t_size d_size d_at s_lanes s_sizes s_items isKept m_lane m_size m_item m_letters m_tape m_position m_number m_now m_tried m_read m_kept m_isKept m_ways m_wins) (fun v9 h9 => v9 = none ∧ h9 = (kn_hp L xs r_t_kinds r_t_holds r_t_barred r_t_parties r_t_size r_p_numbers r_p_size r_firms r_tied r_wars r_wet r_day r_drawn k_t_kinds k_t_holds k_t_barred k_t_parties k_t_size k_p_numbers k_p_size k_firms k_tied k_wars k_wet k_day k_drawn f_depths f_bars f_ways d_letters d_t_kinds d_t_holds d_t_barred d_t_parties d_t_size d_size d_at s_lanes s_sizes s_items isKept m_lane m_size m_item m_letters m_tape m_position m_number r9 m_tried m_read m_kept m_isKept m_ways m_wins)) := by
  unfold f_X7_bring at hf
  refine kn_P_steps 2 (f1 := (3, [(5, .int (0 : Int32)), (0, .ref 42), (1, .int p1), (2, .ref 40), (3, .int p3), (4, .int p4)], [])) (h1 := (kn_hp L xs r_t_kinds r_t_holds r_t_barred r_t_parties r_t_size r_p_numbers r_p_size r_firms r_tied r_wars r_wet r_day r_drawn k_t_kinds k_t_holds k_t_barred k_t_parties k_t_size k_p_numbers k_p_size k_firms k_tied k_wars k_wet k_day k_drawn f_depths f_bars f_ways d_letters d_t_kinds d_t_holds d_t_barred d_t_parties d_t_size d_size d_at s_lanes s_sizes s_items isKept m_lane m_size m_item m_letters m_tape m_position m_number m_now m_tried m_read m_kept m_isKept m_ways m_wins)) (by with_unfolding_all rfl) ?_
  refine kn_P_pick [1, 2, 3, 4, 5, 0] (l1 := [(0, .ref 42), (1, .int p1), (2, .ref 40), (3, .int p3), (4, .int p4), (5, .int (0 : Int32))]) (by with_unfolding_all rfl) (by with_unfolding_all rfl) ?_
  exact ml_X7_bring_3  300 _ _ _ _ _ _ _ hf
set_option maxRecDepth 100000 in
set_option maxHeartbeats 4000000 in
theorem ml_X7_agreement_2 : ∀ (n : Nat) (m_letters : Int32) (m_tape : (Nat → Int32)) (m_position : Int32) (m_number : Int32) (m_now : (Nat → Int32)) (m_read : (Nat → Int32)) (v1 : Int32) (r9 : Int32 × Int32 × Int32 × Int32 × (Nat → Int32) × (Nat → Int32)), fl_X7_agreement_2 n m_letters m_tape m_position m_number m_now m_read v1 = some r9 → kn_Post kn_T km_X7_agreement (2, [(0, .ref 35), (1, .int v1)], []) (kn_hp L xs r_t_kinds r_t_holds r_t_barred r_t_parties r_t_size r_p_numbers r_p_size r_firms r_tied r_wars r_wet r_day r_drawn k_t_kinds k_t_holds k_t_barred k_t_parties k_t_size k_p_numbers k_p_size k_firms k_tied k_wars k_wet k_day k_drawn f_depths f_bars f_ways d_letters d_t_kinds d_t_holds d_t_barred d_t_parties d_t_size d_size d_at s_lanes s_sizes s_items isKept m_lane m_size m_item m_letters m_tape m_position m_number m_now m_tried m_read m_kept m_isKept m_ways m_wins) (fun v9 h9 => v9 = some (.int r9.1) ∧ h9 = (kn_hp L xs r_t_kinds r_t_holds r_t_barred r_t_parties r_t_size r_p_numbers r_p_size r_firms r_tied r_wars r_wet r_day r_drawn k_t_kinds k_t_holds k_t_barred k_t_parties k_t_size k_p_numbers k_p_size k_firms k_tied k_wars k_wet k_day k_drawn f_depths f_bars f_ways d_letters d_t_kinds d_t_holds d_t_barred d_t_parties d_t_size d_size d_at s_lanes s_sizes s_items isKept m_lane m_size m_item r9.2.1 m_tape r9.2.2.1 r9.2.2.2.1 r9.2.2.2.2.1 m_tried r9.2.2.2.2.2 m_kept m_isKept m_ways m_wins)) := by
  intro n
  induction n with
  | zero => intro m_letters m_tape m_position m_number m_now m_read v1 r9 hf; cases hf
  | succ n ih =>
    intro m_letters m_tape m_position m_number m_now m_read v1 r9 hf
    rw [fl_X7_agreement_2] at hf
    refine kn_P_steps 2 (f1 := (5, [(0, .ref 35), (1, .int v1)], [.int (79 : Int32), .int v1])) (h1 := (kn_hp L xs r_t_kinds r_t_holds r_t_barred r_t_parties r_t_size r_p_numbers r_p_size r_firms r_tied r_wars r_wet r_day r_drawn k_t_kinds k_t_holds k_t_barred k_t_parties k_t_size k_p_numbers k_p_size k_firms k_tied k_wars k_wet k_day k_drawn f_depths f_bars f_ways d_letters d_t_kinds d_t_holds d_t_barred d_t_parties d_t_size d_size d_at s_lanes s_sizes s_items isKept m_lane m_size m_item m_letters m_tape m_position m_number m_now m_tried m_read m_kept m_isKept m_ways m_wins)) (by with_unfolding_all rfl) ?_
    refine kn_Q_if (c := (79 : Int32) ≤ v1) (t := 21) (n := 8) (l1 := [(0, .ref 35), (1, .int v1)]) (s1 := []) (by with_unfolding_all rfl) (fun hc1 => ?_) (fun hc1 => ?_)
    · rw [if_pos hc1] at hf
      refine kn_P_steps 12 (f1 := (39, [(0, .ref 35), (1, .int v1)], [.ref 35])) (h1 := (kn_hp L xs r_t_kinds r_t_holds r_t_barred r_t_parties r_t_size r_p_numbers r_p_size r_firms r_tied r_wars r_wet r_day r_drawn k_t_kinds k_t_holds k_t_barred k_t_parties k_t_size k_p_numbers k_p_size k_firms k_tied k_wars k_wet k_day k_drawn f_depths f_bars f_ways d_letters d_t_kinds d_t_holds d_t_barred d_t_parties d_t_size d_size d_at s_lanes s_sizes s_items isKept m_lane m_size m_item m_letters m_tape (0 : Int32) m_number m_now m_tried (upd m_read 1 (m_now 1)) m_kept m_isKept m_ways m_wins)) (by with_unfolding_all rfl) ?_
      cases e2 : f_X7_isAgreement m_letters m_tape (0 : Int32) m_number (upd m_read 1 (m_now 1)) with
      | none => rw [e2] at hf; cases hf
      | some q1 =>
        rw [e2] at hf
        dsimp only at hf
        refine kn_Q_call (M1 := km_X7_isAgreement) (j := 127) (as := [.ref 35]) (f1 := (42, [(0, .ref 35), (1, .int v1)], [])) (f0 := (0, [(0, .ref 35)], [])) (by with_unfolding_all rfl) (by with_unfolding_all rfl) (by with_unfolding_all rfl) (mt_X7_isAgreement e2) (fun v9 h9 q9 => ?_)
        obtain ⟨rfl, rfl, hz3⟩ := q9
        refine kn_P_steps 5 (f1 := (49, [(1, .int q1.1), (0, .ref 35)], [.int q1.1])) (h1 := (kn_hp L xs r_t_kinds r_t_holds r_t_barred r_t_parties r_t_size r_p_numbers r_p_size r_firms r_tied r_wars r_wet r_day r_drawn k_t_kinds k_t_holds k_t_barred k_t_parties k_t_size k_p_numbers k_p_size k_firms k_tied k_wars k_wet k_day k_drawn f_depths f_bars f_ways d_letters d_t_kinds d_t_holds d_t_barred d_t_parties d_t_size d_size d_at s_lanes s_sizes s_items isKept m_lane m_size m_item (0 : Int32) m_tape q1.2.1 q1.2.2.1 m_now m_tried q1.2.2.2 m_kept m_isKept m_ways m_wins)) (by with_unfolding_all rfl) ?_
        refine kn_Q_if (c := q1.1 = (0 : Int32)) (t := 52) (n := 60) (l1 := [(1, .int q1.1), (0, .ref 35)]) (s1 := []) (by with_unfolding_all rfl) (fun hc4 => ?_) (fun hc4 => ?_)
        · rw [if_pos hc4] at hf
          refine kn_P_steps 4 (f1 := (59, [(1, .int q1.1), (0, .ref 35)], [.int ((-20 : Int32) - q1.2.1)])) (h1 := (kn_hp L xs r_t_kinds r_t_holds r_t_barred r_t_parties r_t_size r_p_numbers r_p_size r_firms r_tied r_wars r_wet r_day r_drawn k_t_kinds k_t_holds k_t_barred k_t_parties k_t_size k_p_numbers k_p_size k_firms k_tied k_wars k_wet k_day k_drawn f_depths f_bars f_ways d_letters d_t_kinds d_t_holds d_t_barred d_t_parties d_t_size d_size d_at s_lanes s_sizes s_items isKept m_lane m_size m_item (0 : Int32) m_tape q1.2.1 q1.2.2.1 m_now m_tried q1.2.2.2 m_kept m_isKept m_ways m_wins)) (by with_unfolding_all rfl) ?_
          replace hf := Option.some.inj hf
          subst hf
          exact kn_Q_ret (v := some (.int ((-20 : Int32) - q1.2.1))) (by with_unfolding_all rfl) ⟨rfl, rfl⟩
        · rw [if_neg hc4] at hf
          refine kn_P_steps 7 (f1 := (72, [(1, .int q1.1), (0, .ref 35)], [.int (79 : Int32), .int (0 : Int32), .ref 40, .int (0 : Int32), .ref 42])) (h1 := (kn_hp L xs r_t_kinds r_t_holds r_t_barred r_t_parties r_t_size r_p_numbers r_p_size r_firms r_tied r_wars r_wet r_day r_drawn k_t_kinds k_t_holds k_t_barred k_t_parties k_t_size k_p_numbers k_p_size k_firms k_tied k_wars k_wet k_day k_drawn f_depths f_bars f_ways d_letters d_t_kinds d_t_holds d_t_barred d_t_parties d_t_size d_size d_at s_lanes s_sizes s_items isKept m_lane m_size m_item (0 : Int32) m_tape q1.2.1 q1.2.2.1 m_now m_tried q1.2.2.2 m_kept m_isKept m_ways m_wins)) (by with_unfolding_all rfl) ?_
          cases e5 : f_X7_bring m_now q1.2.2.2 (0 : Int32) (0 : Int32) (79 : Int32) with
          | none => rw [e5] at hf; cases hf
          | some q2 =>
            rw [e5] at hf
            dsimp only at hf
            refine kn_Q_call (M1 := km_X7_bring) (j := 109) (as := [.ref 42, .int (0 : Int32), .ref 40, .int (0 : Int32), .int (79 : Int32)]) (f1 := (75, [(1, .int q1.1), (0, .ref 35)], [])) (f0 := (0, [(0, .ref 42), (1, .int (0 : Int32)), (2, .ref 40), (3, .int (0 : Int32)), (4, .int (79 : Int32))], [])) (by with_unfolding_all rfl) (by with_unfolding_all rfl) (by with_unfolding_all rfl) (mt_X7_bring e5) (fun v9 h9 q9 => ?_)
            obtain ⟨rfl, rfl⟩ := q9
            refine kn_P_steps 4 (f1 := (81, [(1, .int q1.1), (0, .ref 35)], [.int (q2 5)])) (h1 := (kn_hp L xs r_t_kinds r_t_holds r_t_barred r_t_parties r_t_size r_p_numbers r_p_size r_firms r_tied r_wars r_wet r_day r_drawn k_t_kinds k_t_holds k_t_barred k_t_parties k_t_size k_p_numbers k_p_size k_firms k_tied k_wars k_wet k_day k_drawn f_depths f_bars f_ways d_letters d_t_kinds d_t_holds d_t_barred d_t_parties d_t_size d_size d_at s_lanes s_sizes s_items isKept m_lane m_size m_item (0 : Int32) m_tape q1.2.1 q1.2.2.1 q2 m_tried q1.2.2.2 m_kept m_isKept m_ways m_wins)) (by with_unfolding_all rfl) ?_
            replace hf := Option.some.inj hf
            subst hf
            exact kn_Q_ret (v := some (.int (q2 5))) (by with_unfolding_all rfl) ⟨rfl, rfl⟩
    · rw [if_neg hc1] at hf
      refine kn_P_steps 4 (f1 := (14, [(0, .ref 35), (1, .int v1)], [.int (0 : Int32), .int v1, .ref 42])) (h1 := (kn_hp L xs r_t_kinds r_t_holds r_t_barred r_t_parties r_t_size r_p_numbers r_p_size r_firms r_tied r_wars r_wet r_day r_drawn k_t_kinds k_t_holds k_t_barred k_t_parties k_t_size k_p_numbers k_p_size k_firms k_tied k_wars k_wet k_day k_drawn f_depths f_bars f_ways d_letters d_t_kinds d_t_holds d_t_barred d_t_parties d_t_size d_size d_at s_lanes s_sizes s_items isKept m_lane m_size m_item m_letters m_tape m_position m_number m_now m_tried m_read m_kept m_isKept m_ways m_wins)) (by with_unfolding_all rfl) ?_
      by_cases hb6 : v1 < 0 ∨ 79 ≤ (v1).toNatClampNeg
      · rw [if_pos hb6] at hf; cases hf
      · rw [if_neg hb6] at hf
        refine kn_Q_ok (c := v1 < 0 ∨ 79 ≤ (v1).toNatClampNeg) (t := 15) (l1 := [(0, .ref 35), (1, .int v1)]) (s1 := []) (h1 := (kn_hp L xs r_t_kinds r_t_holds r_t_barred r_t_parties r_t_size r_p_numbers r_p_size r_firms r_tied r_wars r_wet r_day r_drawn k_t_kinds k_t_holds k_t_barred k_t_parties k_t_size k_p_numbers k_p_size k_firms k_tied k_wars k_wet k_day k_drawn f_depths f_bars f_ways d_letters d_t_kinds d_t_holds d_t_barred d_t_parties d_t_size d_size d_at s_lanes s_sizes s_items isKept m_lane m_size m_item m_letters m_tape m_position m_number m_now m_tried (upd m_read (v1).toNatClampNeg (0 : Int32)) m_kept m_isKept m_ways m_wins)) (by with_unfolding_all rfl) hb6 ?_
        refine kn_P_steps 2 (f1 := (2, [(1, .int (v1 + (1 : Int32))), (0, .ref 35)], [])) (h1 := (kn_hp L xs r_t_kinds r_t_holds r_t_barred r_t_parties r_t_size r_p_numbers r_p_size r_firms r_tied r_wars r_wet r_day r_drawn k_t_kinds k_t_holds k_t_barred k_t_parties k_t_size k_p_numbers k_p_size k_firms k_tied k_wars k_wet k_day k_drawn f_depths f_bars f_ways d_letters d_t_kinds d_t_holds d_t_barred d_t_parties d_t_size d_size d_at s_lanes s_sizes s_items isKept m_lane m_size m_item m_letters m_tape m_position m_number m_now m_tried (upd m_read (v1).toNatClampNeg (0 : Int32)) m_kept m_isKept m_ways m_wins)) (by with_unfolding_all rfl) ?_
        refine kn_P_pick [1, 0] (l1 := [(0, .ref 35), (1, .int (v1 + (1 : Int32)))]) (by with_unfolding_all rfl) (by with_unfolding_all rfl) ?_
        exact ih _ _ _ _ _ _ _ _ hf
set_option maxRecDepth 100000 in
set_option maxHeartbeats 4000000 in
theorem mt_X7_agreement  {r9 : Int32 × Int32 × Int32 × Int32 × (Nat → Int32) × (Nat → Int32)} (hf : f_X7_agreement m_letters m_tape m_position m_number m_now m_read = some r9) : kn_Post kn_T km_X7_agreement (0, [(0, .ref 35)], []) (kn_hp L xs r_t_kinds r_t_holds r_t_barred r_t_parties r_t_size r_p_numbers r_p_size r_firms r_tied r_wars r_wet r_day r_drawn k_t_kinds k_t_holds k_t_barred k_t_parties k_t_size k_p_numbers k_p_size k_firms k_tied k_wars k_wet k_day k_drawn f_depths f_bars f_ways d_letters d_t_kinds d_t_holds d_t_barred d_t_parties d_t_size d_size d_at s_lanes s_sizes s_items isKept m_lane m_size m_item m_letters m_tape m_position m_number m_now m_tried m_read m_kept m_isKept m_ways m_wins) (fun v9 h9 => v9 = some (.int r9.1) ∧ h9 = (kn_hp L xs r_t_kinds r_t_holds r_t_barred r_t_parties r_t_size r_p_numbers r_p_size r_firms r_tied r_wars r_wet r_day r_drawn k_t_kinds k_t_holds k_t_barred k_t_parties k_t_size k_p_numbers k_p_size k_firms k_tied k_wars k_wet k_day k_drawn f_depths f_bars f_ways d_letters d_t_kinds d_t_holds d_t_barred d_t_parties d_t_size d_size d_at s_lanes s_sizes s_items isKept m_lane m_size m_item r9.2.1 m_tape r9.2.2.1 r9.2.2.2.1 r9.2.2.2.2.1 m_tried r9.2.2.2.2.2 m_kept m_isKept m_ways m_wins)) := by
  unfold f_X7_agreement at hf
  refine kn_P_steps 2 (f1 := (2, [(1, .int (0 : Int32)), (0, .ref 35)], [])) (h1 := (kn_hp L xs r_t_kinds r_t_holds r_t_barred r_t_parties r_t_size r_p_numbers r_p_size r_firms r_tied r_wars r_wet r_day r_drawn k_t_kinds k_t_holds k_t_barred k_t_parties k_t_size k_p_numbers k_p_size k_firms k_tied k_wars k_wet k_day k_drawn f_depths f_bars f_ways d_letters d_t_kinds d_t_holds d_t_barred d_t_parties d_t_size d_size d_at s_lanes s_sizes s_items isKept m_lane m_size m_item m_letters m_tape m_position m_number m_now m_tried m_read m_kept m_isKept m_ways m_wins)) (by with_unfolding_all rfl) ?_
  refine kn_P_pick [1, 0] (l1 := [(0, .ref 35), (1, .int (0 : Int32))]) (by with_unfolding_all rfl) (by with_unfolding_all rfl) ?_
  exact ml_X7_agreement_2  300 _ _ _ _ _ _ _ _ hf
set_option maxRecDepth 100000 in
set_option maxHeartbeats 4000000 in
theorem ml_X4_boundParties_4 : ∀ (n : Nat) (r_t_parties : (Nat → Int32)) (r_t_size : Int32) (r_tied : Int32) (v1 : Int32) (v2 : Int32) (r9 : Int32), fl_X4_boundParties_4 n r_t_parties r_t_size r_tied v1 v2 = some r9 → kn_Post kn_T km_X4_boundParties (4, [(0, .ref 2), (1, .int v1), (2, .int v2)], []) (kn_hp L xs r_t_kinds r_t_holds r_t_barred r_t_parties r_t_size r_p_numbers r_p_size r_firms r_tied r_wars r_wet r_day r_drawn k_t_kinds k_t_holds k_t_barred k_t_parties k_t_size k_p_numbers k_p_size k_firms k_tied k_wars k_wet k_day k_drawn f_depths f_bars f_ways d_letters d_t_kinds d_t_holds d_t_barred d_t_parties d_t_size d_size d_at s_lanes s_sizes s_items isKept m_lane m_size m_item m_letters m_tape m_position m_number m_now m_tried m_read m_kept m_isKept m_ways m_wins) (fun v9 h9 => v9 = some (.int r9) ∧ h9 = (kn_hp L xs r_t_kinds r_t_holds r_t_barred r_t_parties r_t_size r_p_numbers r_p_size r_firms r_tied r_wars r_wet r_day r_drawn k_t_kinds k_t_holds k_t_barred k_t_parties k_t_size k_p_numbers k_p_size k_firms k_tied k_wars k_wet k_day k_drawn f_depths f_bars f_ways d_letters d_t_kinds d_t_holds d_t_barred d_t_parties d_t_size d_size d_at s_lanes s_sizes s_items isKept m_lane m_size m_item m_letters m_tape m_position m_number m_now m_tried m_read m_kept m_isKept m_ways m_wins)) := by
  intro n
  induction n with
  | zero => intro r_t_parties r_t_size r_tied v1 v2 r9 hf; cases hf
  | succ n ih =>
    intro r_t_parties r_t_size r_tied v1 v2 r9 hf
    rw [fl_X4_boundParties_4] at hf
    refine kn_P_steps 2 (f1 := (6, [(0, .ref 2), (1, .int v1), (2, .int v2)], [.int (4 : Int32), .int v2])) (h1 := (kn_hp L xs r_t_kinds r_t_holds r_t_barred r_t_parties r_t_size r_p_numbers r_p_size r_firms r_tied r_wars r_wet r_day r_drawn k_t_kinds k_t_holds k_t_barred k_t_parties k_t_size k_p_numbers k_p_size k_firms k_tied k_wars k_wet k_day k_drawn f_depths f_bars f_ways d_letters d_t_kinds d_t_holds d_t_barred d_t_parties d_t_size d_size d_at s_lanes s_sizes s_items isKept m_lane m_size m_item m_letters m_tape m_position m_number m_now m_tried m_read m_kept m_isKept m_ways m_wins)) (by with_unfolding_all rfl) ?_
    refine kn_Q_if (c := (4 : Int32) ≤ v2) (t := 37) (n := 9) (l1 := [(0, .ref 2), (1, .int v1), (2, .int v2)]) (s1 := []) (by with_unfolding_all rfl) (fun hc1 => ?_) (fun hc1 => ?_)
    · rw [if_pos hc1] at hf
      refine kn_P_steps 1 (f1 := (38, [(0, .ref 2), (1, .int v1), (2, .int v2)], [.int v1])) (h1 := (kn_hp L xs r_t_kinds r_t_holds r_t_barred r_t_parties r_t_size r_p_numbers r_p_size r_firms r_tied r_wars r_wet r_day r_drawn k_t_kinds k_t_holds k_t_barred k_t_parties k_t_size k_p_numbers k_p_size k_firms k_tied k_wars k_wet k_day k_drawn f_depths f_bars f_ways d_letters d_t_kinds d_t_holds d_t_barred d_t_parties d_t_size d_size d_at s_lanes s_sizes s_items isKept m_lane m_size m_item m_letters m_tape m_position m_number m_now m_tried m_read m_kept m_isKept m_ways m_wins)) (by with_unfolding_all rfl) ?_
      replace hf := Option.some.inj hf
      subst hf
      exact kn_Q_ret (v := some (.int v1)) (by with_unfolding_all rfl) ⟨rfl, rfl⟩
    · rw [if_neg hc1] at hf
      refine kn_P_steps 3 (f1 := (14, [(0, .ref 2), (1, .int v1), (2, .int v2)], [.int v2, .ref 3])) (h1 := (kn_hp L xs r_t_kinds r_t_holds r_t_barred r_t_parties r_t_size r_p_numbers r_p_size r_firms r_tied r_wars r_wet r_day r_drawn k_t_kinds k_t_holds k_t_barred k_t_parties k_t_size k_p_numbers k_p_size k_firms k_tied k_wars k_wet k_day k_drawn f_depths f_bars f_ways d_letters d_t_kinds d_t_holds d_t_barred d_t_parties d_t_size d_size d_at s_lanes s_sizes s_items isKept m_lane m_size m_item m_letters m_tape m_position m_number m_now m_tried m_read m_kept m_isKept m_ways m_wins)) (by with_unfolding_all rfl) ?_
      cases e2 : f_X0_owedBy r_t_parties r_t_size v2 with
      | none => rw [e2] at hf; cases hf
      | some q1 =>
        rw [e2] at hf
        dsimp only at hf
        refine kn_Q_call (M1 := km_X0_owedBy) (j := 2) (as := [.ref 3, .int v2]) (f1 := (17, [(0, .ref 2), (1, .int v1), (2, .int v2)], [])) (f0 := (0, [(0, .ref 3), (1, .int v2)], [])) (by with_unfolding_all rfl) (by with_unfolding_all rfl) (by with_unfolding_all rfl) (mt_X0_owedBy e2) (fun v9 h9 q9 => ?_)
        obtain ⟨rfl, rfl⟩ := q9
        refine kn_P_steps 3 (f1 := (22, [(0, .ref 2), (1, .int v1), (2, .int v2)], [.int (q1 &&& r_tied)])) (h1 := (kn_hp L xs r_t_kinds r_t_holds r_t_barred r_t_parties r_t_size r_p_numbers r_p_size r_firms r_tied r_wars r_wet r_day r_drawn k_t_kinds k_t_holds k_t_barred k_t_parties k_t_size k_p_numbers k_p_size k_firms k_tied k_wars k_wet k_day k_drawn f_depths f_bars f_ways d_letters d_t_kinds d_t_holds d_t_barred d_t_parties d_t_size d_size d_at s_lanes s_sizes s_items isKept m_lane m_size m_item m_letters m_tape m_position m_number m_now m_tried m_read m_kept m_isKept m_ways m_wins)) (by with_unfolding_all rfl) ?_
        refine kn_Q_if (c := (q1 &&& r_tied) = (0 : Int32)) (t := 31) (n := 25) (l1 := [(0, .ref 2), (1, .int v1), (2, .int v2)]) (s1 := []) (by with_unfolding_all rfl) (fun hc3 => ?_) (fun hc3 => ?_)
        · rw [if_pos hc3] at hf
          refine kn_P_steps 2 (f1 := (4, [(2, .int (v2 + (1 : Int32))), (0, .ref 2), (1, .int v1)], [])) (h1 := (kn_hp L xs r_t_kinds r_t_holds r_t_barred r_t_parties r_t_size r_p_numbers r_p_size r_firms r_tied r_wars r_wet r_day r_drawn k_t_kinds k_t_holds k_t_barred k_t_parties k_t_size k_p_numbers k_p_size k_firms k_tied k_wars k_wet k_day k_drawn f_depths f_bars f_ways d_letters d_t_kinds d_t_holds d_t_barred d_t_parties d_t_size d_size d_at s_lanes s_sizes s_items isKept m_lane m_size m_item m_letters m_tape m_position m_number m_now m_tried m_read m_kept m_isKept m_ways m_wins)) (by with_unfolding_all rfl) ?_
          refine kn_P_pick [1, 2, 0] (l1 := [(0, .ref 2), (1, .int v1), (2, .int (v2 + (1 : Int32)))]) (by with_unfolding_all rfl) (by with_unfolding_all rfl) ?_
          exact ih _ _ _ _ _ _ hf
        · rw [if_neg hc3] at hf
          refine kn_P_steps 8 (f1 := (4, [(2, .int (v2 + (1 : Int32))), (1, .int (v1 ||| ((1 : Int32) <<< (v2 &&& (31 : Int32))))), (0, .ref 2)], [])) (h1 := (kn_hp L xs r_t_kinds r_t_holds r_t_barred r_t_parties r_t_size r_p_numbers r_p_size r_firms r_tied r_wars r_wet r_day r_drawn k_t_kinds k_t_holds k_t_barred k_t_parties k_t_size k_p_numbers k_p_size k_firms k_tied k_wars k_wet k_day k_drawn f_depths f_bars f_ways d_letters d_t_kinds d_t_holds d_t_barred d_t_parties d_t_size d_size d_at s_lanes s_sizes s_items isKept m_lane m_size m_item m_letters m_tape m_position m_number m_now m_tried m_read m_kept m_isKept m_ways m_wins)) (by with_unfolding_all rfl) ?_
          refine kn_P_pick [2, 1, 0] (l1 := [(0, .ref 2), (1, .int (v1 ||| ((1 : Int32) <<< (v2 &&& (31 : Int32))))), (2, .int (v2 + (1 : Int32)))]) (by with_unfolding_all rfl) (by with_unfolding_all rfl) ?_
          exact ih _ _ _ _ _ _ hf
set_option maxRecDepth 100000 in
set_option maxHeartbeats 4000000 in
theorem mt_X4_boundParties  {r9 : Int32} (hf : f_X4_boundParties r_t_parties r_t_size r_tied = some r9) : kn_Post kn_T km_X4_boundParties (0, [(0, .ref 2)], []) (kn_hp L xs r_t_kinds r_t_holds r_t_barred r_t_parties r_t_size r_p_numbers r_p_size r_firms r_tied r_wars r_wet r_day r_drawn k_t_kinds k_t_holds k_t_barred k_t_parties k_t_size k_p_numbers k_p_size k_firms k_tied k_wars k_wet k_day k_drawn f_depths f_bars f_ways d_letters d_t_kinds d_t_holds d_t_barred d_t_parties d_t_size d_size d_at s_lanes s_sizes s_items isKept m_lane m_size m_item m_letters m_tape m_position m_number m_now m_tried m_read m_kept m_isKept m_ways m_wins) (fun v9 h9 => v9 = some (.int r9) ∧ h9 = (kn_hp L xs r_t_kinds r_t_holds r_t_barred r_t_parties r_t_size r_p_numbers r_p_size r_firms r_tied r_wars r_wet r_day r_drawn k_t_kinds k_t_holds k_t_barred k_t_parties k_t_size k_p_numbers k_p_size k_firms k_tied k_wars k_wet k_day k_drawn f_depths f_bars f_ways d_letters d_t_kinds d_t_holds d_t_barred d_t_parties d_t_size d_size d_at s_lanes s_sizes s_items isKept m_lane m_size m_item m_letters m_tape m_position m_number m_now m_tried m_read m_kept m_isKept m_ways m_wins)) := by
  unfold f_X4_boundParties at hf
  refine kn_P_steps 4 (f1 := (4, [(2, .int (0 : Int32)), (1, .int (0 : Int32)), (0, .ref 2)], [])) (h1 := (kn_hp L xs r_t_kinds r_t_holds r_t_barred r_t_parties r_t_size r_p_numbers r_p_size r_firms r_tied r_wars r_wet r_day r_drawn k_t_kinds k_t_holds k_t_barred k_t_parties k_t_size k_p_numbers k_p_size k_firms k_tied k_wars k_wet k_day k_drawn f_depths f_bars f_ways d_letters d_t_kinds d_t_holds d_t_barred d_t_parties d_t_size d_size d_at s_lanes s_sizes s_items isKept m_lane m_size m_item m_letters m_tape m_position m_number m_now m_tried m_read m_kept m_isKept m_ways m_wins)) (by with_unfolding_all rfl) ?_
  refine kn_P_pick [2, 1, 0] (l1 := [(0, .ref 2), (1, .int (0 : Int32)), (2, .int (0 : Int32))]) (by with_unfolding_all rfl) (by with_unfolding_all rfl) ?_
  exact ml_X4_boundParties_4  300 _ _ _ _ _ _ hf
set_option maxRecDepth 100000 in
set_option maxHeartbeats 4000000 in
theorem mt_X6_count {p1 : Int32} {r9 : Int32} (hf : f_X6_count r_t_barred r_t_parties r_t_size r_p_size r_tied r_wars r_wet r_day p1 = some r9) : kn_Post kn_T km_X6_count (0, [(0, .ref 1), (1, .int p1)], []) (kn_hp L xs r_t_kinds r_t_holds r_t_barred r_t_parties r_t_size r_p_numbers r_p_size r_firms r_tied r_wars r_wet r_day r_drawn k_t_kinds k_t_holds k_t_barred k_t_parties k_t_size k_p_numbers k_p_size k_firms k_tied k_wars k_wet k_day k_drawn f_depths f_bars f_ways d_letters d_t_kinds d_t_holds d_t_barred d_t_parties d_t_size d_size d_at s_lanes s_sizes s_items isKept m_lane m_size m_item m_letters m_tape m_position m_number m_now m_tried m_read m_kept m_isKept m_ways m_wins) (fun v9 h9 => v9 = some (.int r9) ∧ h9 = (kn_hp L xs r_t_kinds r_t_holds r_t_barred r_t_parties r_t_size r_p_numbers r_p_size r_firms r_tied r_wars r_wet r_day r_drawn k_t_kinds k_t_holds k_t_barred k_t_parties k_t_size k_p_numbers k_p_size k_firms k_tied k_wars k_wet k_day k_drawn f_depths f_bars f_ways d_letters d_t_kinds d_t_holds d_t_barred d_t_parties d_t_size d_size d_at s_lanes s_sizes s_items isKept m_lane m_size m_item m_letters m_tape m_position m_number m_now m_tried m_read m_kept m_isKept m_ways m_wins)) := by
  unfold f_X6_count at hf
  refine kn_P_steps 1 (f1 := (1, [(0, .ref 1), (1, .int p1)], [.int p1])) (h1 := (kn_hp L xs r_t_kinds r_t_holds r_t_barred r_t_parties r_t_size r_p_numbers r_p_size r_firms r_tied r_wars r_wet r_day r_drawn k_t_kinds k_t_holds k_t_barred k_t_parties k_t_size k_p_numbers k_p_size k_firms k_tied k_wars k_wet k_day k_drawn f_depths f_bars f_ways d_letters d_t_kinds d_t_holds d_t_barred d_t_parties d_t_size d_size d_at s_lanes s_sizes s_items isKept m_lane m_size m_item m_letters m_tape m_position m_number m_now m_tried m_read m_kept m_isKept m_ways m_wins)) (by with_unfolding_all rfl) ?_
  by_cases hc1 : p1 = (0 : Int32)
  · rw [if_pos hc1] at hf
    refine kn_Q_tab (x := p1) (kk := (0 : Int32)) (lo := 0) (hi := 7) (d := 125) (ts := [48, 59, 67, 75, 83, 98, 106, 114]) (t := 48) (l := [(0, .ref 1), (1, .int p1)]) (r := []) (by with_unfolding_all rfl) hc1 (by with_unfolding_all rfl) ?_
    refine kn_P_steps 4 (f1 := (58, [(0, .ref 1), (1, .int p1)], [.int r_t_size])) (h1 := (kn_hp L xs r_t_kinds r_t_holds r_t_barred r_t_parties r_t_size r_p_numbers r_p_size r_firms r_tied r_wars r_wet r_day r_drawn k_t_kinds k_t_holds k_t_barred k_t_parties k_t_size k_p_numbers k_p_size k_firms k_tied k_wars k_wet k_day k_drawn f_depths f_bars f_ways d_letters d_t_kinds d_t_holds d_t_barred d_t_parties d_t_size d_size d_at s_lanes s_sizes s_items isKept m_lane m_size m_item m_letters m_tape m_position m_number m_now m_tried m_read m_kept m_isKept m_ways m_wins)) (by with_unfolding_all rfl) ?_
    replace hf := Option.some.inj hf
    subst hf
    exact kn_Q_ret (v := some (.int r_t_size)) (by with_unfolding_all rfl) ⟨rfl, rfl⟩
  · rw [if_neg hc1] at hf
    by_cases hc2 : p1 = (1 : Int32)
    · rw [if_pos hc2] at hf
      refine kn_Q_tab (x := p1) (kk := (1 : Int32)) (lo := 0) (hi := 7) (d := 125) (ts := [48, 59, 67, 75, 83, 98, 106, 114]) (t := 59) (l := [(0, .ref 1), (1, .int p1)]) (r := []) (by with_unfolding_all rfl) hc2 (by with_unfolding_all rfl) ?_
      refine kn_P_steps 3 (f1 := (66, [(0, .ref 1), (1, .int p1)], [.int r_day])) (h1 := (kn_hp L xs r_t_kinds r_t_holds r_t_barred r_t_parties r_t_size r_p_numbers r_p_size r_firms r_tied r_wars r_wet r_day r_drawn k_t_kinds k_t_holds k_t_barred k_t_parties k_t_size k_p_numbers k_p_size k_firms k_tied k_wars k_wet k_day k_drawn f_depths f_bars f_ways d_letters d_t_kinds d_t_holds d_t_barred d_t_parties d_t_size d_size d_at s_lanes s_sizes s_items isKept m_lane m_size m_item m_letters m_tape m_position m_number m_now m_tried m_read m_kept m_isKept m_ways m_wins)) (by with_unfolding_all rfl) ?_
      replace hf := Option.some.inj hf
      subst hf
      exact kn_Q_ret (v := some (.int r_day)) (by with_unfolding_all rfl) ⟨rfl, rfl⟩
    · rw [if_neg hc2] at hf
      by_cases hc3 : p1 = (2 : Int32)
      · rw [if_pos hc3] at hf
        refine kn_Q_tab (x := p1) (kk := (2 : Int32)) (lo := 0) (hi := 7) (d := 125) (ts := [48, 59, 67, 75, 83, 98, 106, 114]) (t := 67) (l := [(0, .ref 1), (1, .int p1)]) (r := []) (by with_unfolding_all rfl) hc3 (by with_unfolding_all rfl) ?_
        refine kn_P_steps 3 (f1 := (74, [(0, .ref 1), (1, .int p1)], [.int r_wet])) (h1 := (kn_hp L xs r_t_kinds r_t_holds r_t_barred r_t_parties r_t_size r_p_numbers r_p_size r_firms r_tied r_wars r_wet r_day r_drawn k_t_kinds k_t_holds k_t_barred k_t_parties k_t_size k_p_numbers k_p_size k_firms k_tied k_wars k_wet k_day k_drawn f_depths f_bars f_ways d_letters d_t_kinds d_t_holds d_t_barred d_t_parties d_t_size d_size d_at s_lanes s_sizes s_items isKept m_lane m_size m_item m_letters m_tape m_position m_number m_now m_tried m_read m_kept m_isKept m_ways m_wins)) (by with_unfolding_all rfl) ?_
        replace hf := Option.some.inj hf
        subst hf
        exact kn_Q_ret (v := some (.int r_wet)) (by with_unfolding_all rfl) ⟨rfl, rfl⟩
      · rw [if_neg hc3] at hf
        by_cases hc4 : p1 = (3 : Int32)
        · rw [if_pos hc4] at hf
          refine kn_Q_tab (x := p1) (kk := (3 : Int32)) (lo := 0) (hi := 7) (d := 125) (ts := [48, 59, 67, 75, 83, 98, 106, 114]) (t := 75) (l := [(0, .ref 1), (1, .int p1)]) (r := []) (by with_unfolding_all rfl) hc4 (by with_unfolding_all rfl) ?_
          refine kn_P_steps 3 (f1 := (82, [(0, .ref 1), (1, .int p1)], [.int r_tied])) (h1 := (kn_hp L xs r_t_kinds r_t_holds r_t_barred r_t_parties r_t_size r_p_numbers r_p_size r_firms r_tied r_wars r_wet r_day r_drawn k_t_kinds k_t_holds k_t_barred k_t_parties k_t_size k_p_numbers k_p_size k_firms k_tied k_wars k_wet k_day k_drawn f_depths f_bars f_ways d_letters d_t_kinds d_t_holds d_t_barred d_t_parties d_t_size d_size d_at s_lanes s_sizes s_items isKept m_lane m_size m_item m_letters m_tape m_position m_number m_now m_tried m_read m_kept m_isKept m_ways m_wins)) (by with_unfolding_all rfl) ?_
          replace hf := Option.some.inj hf
          subst hf
          exact kn_Q_ret (v := some (.int r_tied)) (by with_unfolding_all rfl) ⟨rfl, rfl⟩
        · rw [if_neg hc4] at hf
          by_cases hc5 : p1 = (4 : Int32)
          · rw [if_pos hc5] at hf
            refine kn_Q_tab (x := p1) (kk := (4 : Int32)) (lo := 0) (hi := 7) (d := 125) (ts := [48, 59, 67, 75, 83, 98, 106, 114]) (t := 83) (l := [(0, .ref 1), (1, .int p1)]) (r := []) (by with_unfolding_all rfl) hc5 (by with_unfolding_all rfl) ?_
            refine kn_P_steps 5 (f1 := (94, [(0, .ref 1), (1, .int p1)], [.int r_tied, .ref 2])) (h1 := (kn_hp L xs r_t_kinds r_t_holds r_t_barred r_t_parties r_t_size r_p_numbers r_p_size r_firms r_tied r_wars r_wet r_day r_drawn k_t_kinds k_t_holds k_t_barred k_t_parties k_t_size k_p_numbers k_p_size k_firms k_tied k_wars k_wet k_day k_drawn f_depths f_bars f_ways d_letters d_t_kinds d_t_holds d_t_barred d_t_parties d_t_size d_size d_at s_lanes s_sizes s_items isKept m_lane m_size m_item m_letters m_tape m_position m_number m_now m_tried m_read m_kept m_isKept m_ways m_wins)) (by with_unfolding_all rfl) ?_
            cases e6 : f_X4_freeAmong r_t_barred r_tied with
            | none => rw [e6] at hf; cases hf
            | some q1 =>
              rw [e6] at hf
              dsimp only at hf
              refine kn_Q_call (M1 := km_X4_freeAmong) (j := 37) (as := [.ref 2, .int r_tied]) (f1 := (97, [(0, .ref 1), (1, .int p1)], [])) (f0 := (0, [(0, .ref 2), (1, .int r_tied)], [])) (by with_unfolding_all rfl) (by with_unfolding_all rfl) (by with_unfolding_all rfl) (mt_X4_freeAmong e6) (fun v9 h9 q9 => ?_)
              obtain ⟨rfl, rfl⟩ := q9
              replace hf := Option.some.inj hf
              subst hf
              exact kn_Q_ret (v := some (.int q1)) (by with_unfolding_all rfl) ⟨rfl, rfl⟩
          · rw [if_neg hc5] at hf
            by_cases hc7 : p1 = (5 : Int32)
            · rw [if_pos hc7] at hf
              refine kn_Q_tab (x := p1) (kk := (5 : Int32)) (lo := 0) (hi := 7) (d := 125) (ts := [48, 59, 67, 75, 83, 98, 106, 114]) (t := 98) (l := [(0, .ref 1), (1, .int p1)]) (r := []) (by with_unfolding_all rfl) hc7 (by with_unfolding_all rfl) ?_
              refine kn_P_steps 2 (f1 := (102, [(0, .ref 1), (1, .int p1)], [.ref 2])) (h1 := (kn_hp L xs r_t_kinds r_t_holds r_t_barred r_t_parties r_t_size r_p_numbers r_p_size r_firms r_tied r_wars r_wet r_day r_drawn k_t_kinds k_t_holds k_t_barred k_t_parties k_t_size k_p_numbers k_p_size k_firms k_tied k_wars k_wet k_day k_drawn f_depths f_bars f_ways d_letters d_t_kinds d_t_holds d_t_barred d_t_parties d_t_size d_size d_at s_lanes s_sizes s_items isKept m_lane m_size m_item m_letters m_tape m_position m_number m_now m_tried m_read m_kept m_isKept m_ways m_wins)) (by with_unfolding_all rfl) ?_
              cases e8 : f_X4_boundParties r_t_parties r_t_size r_tied with
              | none => rw [e8] at hf; cases hf
              | some q2 =>
                rw [e8] at hf
                dsimp only at hf
                refine kn_Q_call (M1 := km_X4_boundParties) (j := 39) (as := [.ref 2]) (f1 := (105, [(0, .ref 1), (1, .int p1)], [])) (f0 := (0, [(0, .ref 2)], [])) (by with_unfolding_all rfl) (by with_unfolding_all rfl) (by with_unfolding_all rfl) (mt_X4_boundParties e8) (fun v9 h9 q9 => ?_)
                obtain ⟨rfl, rfl⟩ := q9
                replace hf := Option.some.inj hf
                subst hf
                exact kn_Q_ret (v := some (.int q2)) (by with_unfolding_all rfl) ⟨rfl, rfl⟩
            · rw [if_neg hc7] at hf
              by_cases hc9 : p1 = (6 : Int32)
              · rw [if_pos hc9] at hf
                refine kn_Q_tab (x := p1) (kk := (6 : Int32)) (lo := 0) (hi := 7) (d := 125) (ts := [48, 59, 67, 75, 83, 98, 106, 114]) (t := 106) (l := [(0, .ref 1), (1, .int p1)]) (r := []) (by with_unfolding_all rfl) hc9 (by with_unfolding_all rfl) ?_
                refine kn_P_steps 3 (f1 := (113, [(0, .ref 1), (1, .int p1)], [.int r_wars])) (h1 := (kn_hp L xs r_t_kinds r_t_holds r_t_barred r_t_parties r_t_size r_p_numbers r_p_size r_firms r_tied r_wars r_wet r_day r_drawn k_t_kinds k_t_holds k_t_barred k_t_parties k_t_size k_p_numbers k_p_size k_firms k_tied k_wars k_wet k_day k_drawn f_depths f_bars f_ways d_letters d_t_kinds d_t_holds d_t_barred d_t_parties d_t_size d_size d_at s_lanes s_sizes s_items isKept m_lane m_size m_item m_letters m_tape m_position m_number m_now m_tried m_read m_kept m_isKept m_ways m_wins)) (by with_unfolding_all rfl) ?_
                replace hf := Option.some.inj hf
                subst hf
                exact kn_Q_ret (v := some (.int r_wars)) (by with_unfolding_all rfl) ⟨rfl, rfl⟩
              · rw [if_neg hc9] at hf
                by_cases hc10 : p1 = (7 : Int32)
                · rw [if_pos hc10] at hf
                  refine kn_Q_tab (x := p1) (kk := (7 : Int32)) (lo := 0) (hi := 7) (d := 125) (ts := [48, 59, 67, 75, 83, 98, 106, 114]) (t := 114) (l := [(0, .ref 1), (1, .int p1)]) (r := []) (by with_unfolding_all rfl) hc10 (by with_unfolding_all rfl) ?_
                  refine kn_P_steps 4 (f1 := (124, [(0, .ref 1), (1, .int p1)], [.int r_p_size])) (h1 := (kn_hp L xs r_t_kinds r_t_holds r_t_barred r_t_parties r_t_size r_p_numbers r_p_size r_firms r_tied r_wars r_wet r_day r_drawn k_t_kinds k_t_holds k_t_barred k_t_parties k_t_size k_p_numbers k_p_size k_firms k_tied k_wars k_wet k_day k_drawn f_depths f_bars f_ways d_letters d_t_kinds d_t_holds d_t_barred d_t_parties d_t_size d_size d_at s_lanes s_sizes s_items isKept m_lane m_size m_item m_letters m_tape m_position m_number m_now m_tried m_read m_kept m_isKept m_ways m_wins)) (by with_unfolding_all rfl) ?_
                  replace hf := Option.some.inj hf
                  subst hf
                  exact kn_Q_ret (v := some (.int r_p_size)) (by with_unfolding_all rfl) ⟨rfl, rfl⟩
                · rw [if_neg hc10] at hf
                  refine kn_Q_tabN (x := p1) (lo := 0) (hi := 7) (ts := [48, 59, 67, 75, 83, 98, 106, 114]) (d := 125) (l := [(0, .ref 1), (1, .int p1)]) (r := []) (by with_unfolding_all rfl) (kn_tab_out (0) (7) 8 (by decide) (fun j hj => match j, hj with
                    | 0, _ => hc1
                    | 1, _ => hc2
                    | 2, _ => hc3
                    | 3, _ => hc4
                    | 4, _ => hc5
                    | 5, _ => hc7
                    | 6, _ => hc9
                    | 7, _ => hc10
                    | j + 8, hj => absurd hj (by omega))) ?_
                  refine kn_P_steps 1 (f1 := (126, [(0, .ref 1), (1, .int p1)], [.int (-1 : Int32)])) (h1 := (kn_hp L xs r_t_kinds r_t_holds r_t_barred r_t_parties r_t_size r_p_numbers r_p_size r_firms r_tied r_wars r_wet r_day r_drawn k_t_kinds k_t_holds k_t_barred k_t_parties k_t_size k_p_numbers k_p_size k_firms k_tied k_wars k_wet k_day k_drawn f_depths f_bars f_ways d_letters d_t_kinds d_t_holds d_t_barred d_t_parties d_t_size d_size d_at s_lanes s_sizes s_items isKept m_lane m_size m_item m_letters m_tape m_position m_number m_now m_tried m_read m_kept m_isKept m_ways m_wins)) (by with_unfolding_all rfl) ?_
                  replace hf := Option.some.inj hf
                  subst hf
                  exact kn_Q_ret (v := some (.int (-1 : Int32))) (by with_unfolding_all rfl) ⟨rfl, rfl⟩
set_option maxRecDepth 100000 in
set_option maxHeartbeats 4000000 in
theorem ml_X7_freeIn_4 : ∀ (n : Nat) (m_now : (Nat → Int32)) (v1 : Int32) (v2 : Int32) (r9 : Int32), fl_X7_freeIn_4 n m_now v1 v2 = some r9 → kn_Post kn_T km_X7_freeIn (4, [(0, .ref 40), (1, .int v1), (2, .int v2)], []) (kn_hp L xs r_t_kinds r_t_holds r_t_barred r_t_parties r_t_size r_p_numbers r_p_size r_firms r_tied r_wars r_wet r_day r_drawn k_t_kinds k_t_holds k_t_barred k_t_parties k_t_size k_p_numbers k_p_size k_firms k_tied k_wars k_wet k_day k_drawn f_depths f_bars f_ways d_letters d_t_kinds d_t_holds d_t_barred d_t_parties d_t_size d_size d_at s_lanes s_sizes s_items isKept m_lane m_size m_item m_letters m_tape m_position m_number m_now m_tried m_read m_kept m_isKept m_ways m_wins) (fun v9 h9 => v9 = some (.int r9) ∧ h9 = (kn_hp L xs r_t_kinds r_t_holds r_t_barred r_t_parties r_t_size r_p_numbers r_p_size r_firms r_tied r_wars r_wet r_day r_drawn k_t_kinds k_t_holds k_t_barred k_t_parties k_t_size k_p_numbers k_p_size k_firms k_tied k_wars k_wet k_day k_drawn f_depths f_bars f_ways d_letters d_t_kinds d_t_holds d_t_barred d_t_parties d_t_size d_size d_at s_lanes s_sizes s_items isKept m_lane m_size m_item m_letters m_tape m_position m_number m_now m_tried m_read m_kept m_isKept m_ways m_wins)) := by
  intro n
  induction n with
  | zero => intro m_now v1 v2 r9 hf; cases hf
  | succ n ih =>
    intro m_now v1 v2 r9 hf
    rw [fl_X7_freeIn_4] at hf
    refine kn_P_steps 4 (f1 := (8, [(0, .ref 40), (1, .int v1), (2, .int v2)], [.int (m_now 5), .int v2])) (h1 := (kn_hp L xs r_t_kinds r_t_holds r_t_barred r_t_parties r_t_size r_p_numbers r_p_size r_firms r_tied r_wars r_wet r_day r_drawn k_t_kinds k_t_holds k_t_barred k_t_parties k_t_size k_p_numbers k_p_size k_firms k_tied k_wars k_wet k_day k_drawn f_depths f_bars f_ways d_letters d_t_kinds d_t_holds d_t_barred d_t_parties d_t_size d_size d_at s_lanes s_sizes s_items isKept m_lane m_size m_item m_letters m_tape m_position m_number m_now m_tried m_read m_kept m_isKept m_ways m_wins)) (by with_unfolding_all rfl) ?_
    refine kn_Q_if (c := (m_now 5) ≤ v2) (t := 38) (n := 11) (l1 := [(0, .ref 40), (1, .int v1), (2, .int v2)]) (s1 := []) (by with_unfolding_all rfl) (fun hc1 => ?_) (fun hc1 => ?_)
    · rw [if_pos hc1] at hf
      refine kn_P_steps 1 (f1 := (39, [(0, .ref 40), (1, .int v1), (2, .int v2)], [.int v1])) (h1 := (kn_hp L xs r_t_kinds r_t_holds r_t_barred r_t_parties r_t_size r_p_numbers r_p_size r_firms r_tied r_wars r_wet r_day r_drawn k_t_kinds k_t_holds k_t_barred k_t_parties k_t_size k_p_numbers k_p_size k_firms k_tied k_wars k_wet k_day k_drawn f_depths f_bars f_ways d_letters d_t_kinds d_t_holds d_t_barred d_t_parties d_t_size d_size d_at s_lanes s_sizes s_items isKept m_lane m_size m_item m_letters m_tape m_position m_number m_now m_tried m_read m_kept m_isKept m_ways m_wins)) (by with_unfolding_all rfl) ?_
      replace hf := Option.some.inj hf
      subst hf
      exact kn_Q_ret (v := some (.int v1)) (by with_unfolding_all rfl) ⟨rfl, rfl⟩
    · rw [if_neg hc1] at hf
      refine kn_P_steps 6 (f1 := (17, [(0, .ref 40), (1, .int v1), (2, .int v2)], [.int (m_now 2), .int v2, .ref 40, .int v1])) (h1 := (kn_hp L xs r_t_kinds r_t_holds r_t_barred r_t_parties r_t_size r_p_numbers r_p_size r_firms r_tied r_wars r_wet r_day r_drawn k_t_kinds k_t_holds k_t_barred k_t_parties k_t_size k_p_numbers k_p_size k_firms k_tied k_wars k_wet k_day k_drawn f_depths f_bars f_ways d_letters d_t_kinds d_t_holds d_t_barred d_t_parties d_t_size d_size d_at s_lanes s_sizes s_items isKept m_lane m_size m_item m_letters m_tape m_position m_number m_now m_tried m_read m_kept m_isKept m_ways m_wins)) (by with_unfolding_all rfl) ?_
      cases e2 : f_X7_isFree m_now v2 (m_now 2) with
      | none => rw [e2] at hf; cases hf
      | some q1 =>
        rw [e2] at hf
        dsimp only at hf
        refine kn_Q_call (M1 := km_X7_isFree) (j := 115) (as := [.ref 40, .int v2, .int (m_now 2)]) (f1 := (20, [(0, .ref 40), (1, .int v1), (2, .int v2)], [.int v1])) (f0 := (0, [(0, .ref 40), (1, .int v2), (2, .int (m_now 2))], [])) (by with_unfolding_all rfl) (by with_unfolding_all rfl) (by with_unfolding_all rfl) (mt_X7_isFree e2) (fun v9 h9 q9 => ?_)
        obtain ⟨rfl, rfl, hz3⟩ := q9
        refine kn_Q_if (c := q1 = (0 : Int32)) (t := 29) (n := 23) (l1 := [(0, .ref 40), (1, .int v1), (2, .int v2)]) (s1 := [.int v1]) (by with_unfolding_all rfl) (fun hc4 => ?_) (fun hc4 => ?_)
        · rw [if_pos hc4] at hf
          refine kn_P_steps 5 (f1 := (4, [(2, .int (v2 + (1 : Int32))), (1, .int (v1 ||| (0 : Int32))), (0, .ref 40)], [])) (h1 := (kn_hp L xs r_t_kinds r_t_holds r_t_barred r_t_parties r_t_size r_p_numbers r_p_size r_firms r_tied r_wars r_wet r_day r_drawn k_t_kinds k_t_holds k_t_barred k_t_parties k_t_size k_p_numbers k_p_size k_firms k_tied k_wars k_wet k_day k_drawn f_depths f_bars f_ways d_letters d_t_kinds d_t_holds d_t_barred d_t_parties d_t_size d_size d_at s_lanes s_sizes s_items isKept m_lane m_size m_item m_letters m_tape m_position m_number m_now m_tried m_read m_kept m_isKept m_ways m_wins)) (by with_unfolding_all rfl) ?_
          refine kn_P_pick [2, 1, 0] (l1 := [(0, .ref 40), (1, .int (v1 ||| (0 : Int32))), (2, .int (v2 + (1 : Int32)))]) (by with_unfolding_all rfl) (by with_unfolding_all rfl) ?_
          exact ih _ _ _ _ hf
        · rw [if_neg hc4] at hf
          refine kn_P_steps 8 (f1 := (4, [(2, .int (v2 + (1 : Int32))), (1, .int (v1 ||| ((1 : Int32) <<< (v2 &&& (31 : Int32))))), (0, .ref 40)], [])) (h1 := (kn_hp L xs r_t_kinds r_t_holds r_t_barred r_t_parties r_t_size r_p_numbers r_p_size r_firms r_tied r_wars r_wet r_day r_drawn k_t_kinds k_t_holds k_t_barred k_t_parties k_t_size k_p_numbers k_p_size k_firms k_tied k_wars k_wet k_day k_drawn f_depths f_bars f_ways d_letters d_t_kinds d_t_holds d_t_barred d_t_parties d_t_size d_size d_at s_lanes s_sizes s_items isKept m_lane m_size m_item m_letters m_tape m_position m_number m_now m_tried m_read m_kept m_isKept m_ways m_wins)) (by with_unfolding_all rfl) ?_
          refine kn_P_pick [2, 1, 0] (l1 := [(0, .ref 40), (1, .int (v1 ||| ((1 : Int32) <<< (v2 &&& (31 : Int32))))), (2, .int (v2 + (1 : Int32)))]) (by with_unfolding_all rfl) (by with_unfolding_all rfl) ?_
          exact ih _ _ _ _ hf
set_option maxRecDepth 100000 in
set_option maxHeartbeats 4000000 in
theorem mt_X7_freeIn  {r9 : Int32} (hf : f_X7_freeIn m_now = some r9) : kn_Post kn_T km_X7_freeIn (0, [(0, .ref 40)], []) (kn_hp L xs r_t_kinds r_t_holds r_t_barred r_t_parties r_t_size r_p_numbers r_p_size r_firms r_tied r_wars r_wet r_day r_drawn k_t_kinds k_t_holds k_t_barred k_t_parties k_t_size k_p_numbers k_p_size k_firms k_tied k_wars k_wet k_day k_drawn f_depths f_bars f_ways d_letters d_t_kinds d_t_holds d_t_barred d_t_parties d_t_size d_size d_at s_lanes s_sizes s_items isKept m_lane m_size m_item m_letters m_tape m_position m_number m_now m_tried m_read m_kept m_isKept m_ways m_wins) (fun v9 h9 => v9 = some (.int r9) ∧ h9 = (kn_hp L xs r_t_kinds r_t_holds r_t_barred r_t_parties r_t_size r_p_numbers r_p_size r_firms r_tied r_wars r_wet r_day r_drawn k_t_kinds k_t_holds k_t_barred k_t_parties k_t_size k_p_numbers k_p_size k_firms k_tied k_wars k_wet k_day k_drawn f_depths f_bars f_ways d_letters d_t_kinds d_t_holds d_t_barred d_t_parties d_t_size d_size d_at s_lanes s_sizes s_items isKept m_lane m_size m_item m_letters m_tape m_position m_number m_now m_tried m_read m_kept m_isKept m_ways m_wins)) := by
  unfold f_X7_freeIn at hf
  refine kn_P_steps 4 (f1 := (4, [(2, .int (0 : Int32)), (1, .int (0 : Int32)), (0, .ref 40)], [])) (h1 := (kn_hp L xs r_t_kinds r_t_holds r_t_barred r_t_parties r_t_size r_p_numbers r_p_size r_firms r_tied r_wars r_wet r_day r_drawn k_t_kinds k_t_holds k_t_barred k_t_parties k_t_size k_p_numbers k_p_size k_firms k_tied k_wars k_wet k_day k_drawn f_depths f_bars f_ways d_letters d_t_kinds d_t_holds d_t_barred d_t_parties d_t_size d_size d_at s_lanes s_sizes s_items isKept m_lane m_size m_item m_letters m_tape m_position m_number m_now m_tried m_read m_kept m_isKept m_ways m_wins)) (by with_unfolding_all rfl) ?_
  refine kn_P_pick [2, 1, 0] (l1 := [(0, .ref 40), (1, .int (0 : Int32)), (2, .int (0 : Int32))]) (by with_unfolding_all rfl) (by with_unfolding_all rfl) ?_
  exact ml_X7_freeIn_4  300 _ _ _ _ hf
set_option maxRecDepth 100000 in
set_option maxHeartbeats 4000000 in
theorem ml_X7_boundOnes_4 : ∀ (n : Nat) (m_now : (Nat → Int32)) (v1 : Int32) (v2 : Int32) (r9 : Int32), fl_X7_boundOnes_4 n m_now v1 v2 = some r9 → kn_Post kn_T km_X7_boundOnes (4, [(0, .ref 35), (1, .int v1), (2, .int v2)], []) (kn_hp L xs r_t_kinds r_t_holds r_t_barred r_t_parties r_t_size r_p_numbers r_p_size r_firms r_tied r_wars r_wet r_day r_drawn k_t_kinds k_t_holds k_t_barred k_t_parties k_t_size k_p_numbers k_p_size k_firms k_tied k_wars k_wet k_day k_drawn f_depths f_bars f_ways d_letters d_t_kinds d_t_holds d_t_barred d_t_parties d_t_size d_size d_at s_lanes s_sizes s_items isKept m_lane m_size m_item m_letters m_tape m_position m_number m_now m_tried m_read m_kept m_isKept m_ways m_wins) (fun v9 h9 => v9 = some (.int r9) ∧ h9 = (kn_hp L xs r_t_kinds r_t_holds r_t_barred r_t_parties r_t_size r_p_numbers r_p_size r_firms r_tied r_wars r_wet r_day r_drawn k_t_kinds k_t_holds k_t_barred k_t_parties k_t_size k_p_numbers k_p_size k_firms k_tied k_wars k_wet k_day k_drawn f_depths f_bars f_ways d_letters d_t_kinds d_t_holds d_t_barred d_t_parties d_t_size d_size d_at s_lanes s_sizes s_items isKept m_lane m_size m_item m_letters m_tape m_position m_number m_now m_tried m_read m_kept m_isKept m_ways m_wins)) := by
  intro n
  induction n with
  | zero => intro m_now v1 v2 r9 hf; cases hf
  | succ n ih =>
    intro m_now v1 v2 r9 hf
    rw [fl_X7_boundOnes_4] at hf
    refine kn_P_steps 5 (f1 := (11, [(0, .ref 35), (1, .int v1), (2, .int v2)], [.int (m_now 5), .int v2])) (h1 := (kn_hp L xs r_t_kinds r_t_holds r_t_barred r_t_parties r_t_size r_p_numbers r_p_size r_firms r_tied r_wars r_wet r_day r_drawn k_t_kinds k_t_holds k_t_barred k_t_parties k_t_size k_p_numbers k_p_size k_firms k_tied k_wars k_wet k_day k_drawn f_depths f_bars f_ways d_letters d_t_kinds d_t_holds d_t_barred d_t_parties d_t_size d_size d_at s_lanes s_sizes s_items isKept m_lane m_size m_item m_letters m_tape m_position m_number m_now m_tried m_read m_kept m_isKept m_ways m_wins)) (by with_unfolding_all rfl) ?_
    refine kn_Q_if (c := (m_now 5) ≤ v2) (t := 51) (n := 14) (l1 := [(0, .ref 35), (1, .int v1), (2, .int v2)]) (s1 := []) (by with_unfolding_all rfl) (fun hc1 => ?_) (fun hc1 => ?_)
    · rw [if_pos hc1] at hf
      refine kn_P_steps 1 (f1 := (52, [(0, .ref 35), (1, .int v1), (2, .int v2)], [.int v1])) (h1 := (kn_hp L xs r_t_kinds r_t_holds r_t_barred r_t_parties r_t_size r_p_numbers r_p_size r_firms r_tied r_wars r_wet r_day r_drawn k_t_kinds k_t_holds k_t_barred k_t_parties k_t_size k_p_numbers k_p_size k_firms k_tied k_wars k_wet k_day k_drawn f_depths f_bars f_ways d_letters d_t_kinds d_t_holds d_t_barred d_t_parties d_t_size d_size d_at s_lanes s_sizes s_items isKept m_lane m_size m_item m_letters m_tape m_position m_number m_now m_tried m_read m_kept m_isKept m_ways m_wins)) (by with_unfolding_all rfl) ?_
      replace hf := Option.some.inj hf
      subst hf
      exact kn_Q_ret (v := some (.int v1)) (by with_unfolding_all rfl) ⟨rfl, rfl⟩
    · rw [if_neg hc1] at hf
      refine kn_P_steps 6 (f1 := (22, [(0, .ref 35), (1, .int v1), (2, .int v2)], [.int v2, .int (m_now 2), .int v1])) (h1 := (kn_hp L xs r_t_kinds r_t_holds r_t_barred r_t_parties r_t_size r_p_numbers r_p_size r_firms r_tied r_wars r_wet r_day r_drawn k_t_kinds k_t_holds k_t_barred k_t_parties k_t_size k_p_numbers k_p_size k_firms k_tied k_wars k_wet k_day k_drawn f_depths f_bars f_ways d_letters d_t_kinds d_t_holds d_t_barred d_t_parties d_t_size d_size d_at s_lanes s_sizes s_items isKept m_lane m_size m_item m_letters m_tape m_position m_number m_now m_tried m_read m_kept m_isKept m_ways m_wins)) (by with_unfolding_all rfl) ?_
      refine kn_Q_call (M1 := km_X7_has) (j := 107) (as := [.int (m_now 2), .int v2]) (f1 := (25, [(0, .ref 35), (1, .int v1), (2, .int v2)], [.int v1])) (f0 := (0, [(0, .int (m_now 2)), (1, .int v2)], [])) (by with_unfolding_all rfl) (by with_unfolding_all rfl) (by with_unfolding_all rfl) (mt_X7_has rfl) (fun v9 h9 q9 => ?_)
      obtain ⟨rfl, rfl, hz2⟩ := q9
      refine kn_Q_if (c := (f_X7_has (m_now 2) v2) = (0 : Int32)) (t := 42) (n := 28) (l1 := [(0, .ref 35), (1, .int v1), (2, .int v2)]) (s1 := [.int v1]) (by with_unfolding_all rfl) (fun hc3 => ?_) (fun hc3 => ?_)
      · rw [if_pos hc3] at hf
        refine kn_P_steps 5 (f1 := (4, [(2, .int (v2 + (1 : Int32))), (1, .int (v1 ||| (0 : Int32))), (0, .ref 35)], [])) (h1 := (kn_hp L xs r_t_kinds r_t_holds r_t_barred r_t_parties r_t_size r_p_numbers r_p_size r_firms r_tied r_wars r_wet r_day r_drawn k_t_kinds k_t_holds k_t_barred k_t_parties k_t_size k_p_numbers k_p_size k_firms k_tied k_wars k_wet k_day k_drawn f_depths f_bars f_ways d_letters d_t_kinds d_t_holds d_t_barred d_t_parties d_t_size d_size d_at s_lanes s_sizes s_items isKept m_lane m_size m_item m_letters m_tape m_position m_number m_now m_tried m_read m_kept m_isKept m_ways m_wins)) (by with_unfolding_all rfl) ?_
        refine kn_P_pick [2, 1, 0] (l1 := [(0, .ref 35), (1, .int (v1 ||| (0 : Int32))), (2, .int (v2 + (1 : Int32)))]) (by with_unfolding_all rfl) (by with_unfolding_all rfl) ?_
        exact ih _ _ _ _ hf
      · rw [if_neg hc3] at hf
        refine kn_P_steps 6 (f1 := (37, [(0, .ref 35), (1, .int v1), (2, .int v2)], [.int ((30 : Int32) + v2), .ref 40, .int (1 : Int32), .int v1])) (h1 := (kn_hp L xs r_t_kinds r_t_holds r_t_barred r_t_parties r_t_size r_p_numbers r_p_size r_firms r_tied r_wars r_wet r_day r_drawn k_t_kinds k_t_holds k_t_barred k_t_parties k_t_size k_p_numbers k_p_size k_firms k_tied k_wars k_wet k_day k_drawn f_depths f_bars f_ways d_letters d_t_kinds d_t_holds d_t_barred d_t_parties d_t_size d_size d_at s_lanes s_sizes s_items isKept m_lane m_size m_item m_letters m_tape m_position m_number m_now m_tried m_read m_kept m_isKept m_ways m_wins)) (by with_unfolding_all rfl) ?_
        by_cases hb4 : ((30 : Int32) + v2) < 0 ∨ 79 ≤ (((30 : Int32) + v2)).toNatClampNeg
        · rw [if_pos hb4] at hf; cases hf
        · rw [if_neg hb4] at hf
          refine kn_Q_ok (c := ((30 : Int32) + v2) < 0 ∨ 79 ≤ (((30 : Int32) + v2)).toNatClampNeg) (t := 38) (l1 := [(0, .ref 35), (1, .int v1), (2, .int v2)]) (s1 := [.int (m_now (((30 : Int32) + v2)).toNatClampNeg), .int (1 : Int32), .int v1]) (h1 := (kn_hp L xs r_t_kinds r_t_holds r_t_barred r_t_parties r_t_size r_p_numbers r_p_size r_firms r_tied r_wars r_wet r_day r_drawn k_t_kinds k_t_holds k_t_barred k_t_parties k_t_size k_p_numbers k_p_size k_firms k_tied k_wars k_wet k_day k_drawn f_depths f_bars f_ways d_letters d_t_kinds d_t_holds d_t_barred d_t_parties d_t_size d_size d_at s_lanes s_sizes s_items isKept m_lane m_size m_item m_letters m_tape m_position m_number m_now m_tried m_read m_kept m_isKept m_ways m_wins)) (by with_unfolding_all rfl) hb4 ?_
          refine kn_P_steps 6 (f1 := (4, [(2, .int (v2 + (1 : Int32))), (1, .int (v1 ||| ((1 : Int32) <<< ((m_now (((30 : Int32) + v2)).toNatClampNeg) &&& (31 : Int32))))), (0, .ref 35)], [])) (h1 := (kn_hp L xs r_t_kinds r_t_holds r_t_barred r_t_parties r_t_size r_p_numbers r_p_size r_firms r_tied r_wars r_wet r_day r_drawn k_t_kinds k_t_holds k_t_barred k_t_parties k_t_size k_p_numbers k_p_size k_firms k_tied k_wars k_wet k_day k_drawn f_depths f_bars f_ways d_letters d_t_kinds d_t_holds d_t_barred d_t_parties d_t_size d_size d_at s_lanes s_sizes s_items isKept m_lane m_size m_item m_letters m_tape m_position m_number m_now m_tried m_read m_kept m_isKept m_ways m_wins)) (by with_unfolding_all rfl) ?_
          refine kn_P_pick [2, 1, 0] (l1 := [(0, .ref 35), (1, .int (v1 ||| ((1 : Int32) <<< ((m_now (((30 : Int32) + v2)).toNatClampNeg) &&& (31 : Int32))))), (2, .int (v2 + (1 : Int32)))]) (by with_unfolding_all rfl) (by with_unfolding_all rfl) ?_
          exact ih _ _ _ _ hf
set_option maxRecDepth 100000 in
set_option maxHeartbeats 4000000 in
theorem mt_X7_boundOnes  {r9 : Int32} (hf : f_X7_boundOnes m_now = some r9) : kn_Post kn_T km_X7_boundOnes (0, [(0, .ref 35)], []) (kn_hp L xs r_t_kinds r_t_holds r_t_barred r_t_parties r_t_size r_p_numbers r_p_size r_firms r_tied r_wars r_wet r_day r_drawn k_t_kinds k_t_holds k_t_barred k_t_parties k_t_size k_p_numbers k_p_size k_firms k_tied k_wars k_wet k_day k_drawn f_depths f_bars f_ways d_letters d_t_kinds d_t_holds d_t_barred d_t_parties d_t_size d_size d_at s_lanes s_sizes s_items isKept m_lane m_size m_item m_letters m_tape m_position m_number m_now m_tried m_read m_kept m_isKept m_ways m_wins) (fun v9 h9 => v9 = some (.int r9) ∧ h9 = (kn_hp L xs r_t_kinds r_t_holds r_t_barred r_t_parties r_t_size r_p_numbers r_p_size r_firms r_tied r_wars r_wet r_day r_drawn k_t_kinds k_t_holds k_t_barred k_t_parties k_t_size k_p_numbers k_p_size k_firms k_tied k_wars k_wet k_day k_drawn f_depths f_bars f_ways d_letters d_t_kinds d_t_holds d_t_barred d_t_parties d_t_size d_size d_at s_lanes s_sizes s_items isKept m_lane m_size m_item m_letters m_tape m_position m_number m_now m_tried m_read m_kept m_isKept m_ways m_wins)) := by
  unfold f_X7_boundOnes at hf
  refine kn_P_steps 4 (f1 := (4, [(2, .int (0 : Int32)), (1, .int (0 : Int32)), (0, .ref 35)], [])) (h1 := (kn_hp L xs r_t_kinds r_t_holds r_t_barred r_t_parties r_t_size r_p_numbers r_p_size r_firms r_tied r_wars r_wet r_day r_drawn k_t_kinds k_t_holds k_t_barred k_t_parties k_t_size k_p_numbers k_p_size k_firms k_tied k_wars k_wet k_day k_drawn f_depths f_bars f_ways d_letters d_t_kinds d_t_holds d_t_barred d_t_parties d_t_size d_size d_at s_lanes s_sizes s_items isKept m_lane m_size m_item m_letters m_tape m_position m_number m_now m_tried m_read m_kept m_isKept m_ways m_wins)) (by with_unfolding_all rfl) ?_
  refine kn_P_pick [2, 1, 0] (l1 := [(0, .ref 35), (1, .int (0 : Int32)), (2, .int (0 : Int32))]) (by with_unfolding_all rfl) (by with_unfolding_all rfl) ?_
  exact ml_X7_boundOnes_4  300 _ _ _ _ hf
set_option maxRecDepth 100000 in
set_option maxHeartbeats 4000000 in
theorem mt_X7_count {p1 : Int32} {r9 : Int32} (hf : f_X7_count m_now p1 = some r9) : kn_Post kn_T km_X7_count (0, [(0, .ref 35), (1, .int p1)], []) (kn_hp L xs r_t_kinds r_t_holds r_t_barred r_t_parties r_t_size r_p_numbers r_p_size r_firms r_tied r_wars r_wet r_day r_drawn k_t_kinds k_t_holds k_t_barred k_t_parties k_t_size k_p_numbers k_p_size k_firms k_tied k_wars k_wet k_day k_drawn f_depths f_bars f_ways d_letters d_t_kinds d_t_holds d_t_barred d_t_parties d_t_size d_size d_at s_lanes s_sizes s_items isKept m_lane m_size m_item m_letters m_tape m_position m_number m_now m_tried m_read m_kept m_isKept m_ways m_wins) (fun v9 h9 => v9 = some (.int r9) ∧ h9 = (kn_hp L xs r_t_kinds r_t_holds r_t_barred r_t_parties r_t_size r_p_numbers r_p_size r_firms r_tied r_wars r_wet r_day r_drawn k_t_kinds k_t_holds k_t_barred k_t_parties k_t_size k_p_numbers k_p_size k_firms k_tied k_wars k_wet k_day k_drawn f_depths f_bars f_ways d_letters d_t_kinds d_t_holds d_t_barred d_t_parties d_t_size d_size d_at s_lanes s_sizes s_items isKept m_lane m_size m_item m_letters m_tape m_position m_number m_now m_tried m_read m_kept m_isKept m_ways m_wins)) := by
  unfold f_X7_count at hf
  refine kn_P_steps 1 (f1 := (1, [(0, .ref 35), (1, .int p1)], [.int p1])) (h1 := (kn_hp L xs r_t_kinds r_t_holds r_t_barred r_t_parties r_t_size r_p_numbers r_p_size r_firms r_tied r_wars r_wet r_day r_drawn k_t_kinds k_t_holds k_t_barred k_t_parties k_t_size k_p_numbers k_p_size k_firms k_tied k_wars k_wet k_day k_drawn f_depths f_bars f_ways d_letters d_t_kinds d_t_holds d_t_barred d_t_parties d_t_size d_size d_at s_lanes s_sizes s_items isKept m_lane m_size m_item m_letters m_tape m_position m_number m_now m_tried m_read m_kept m_isKept m_ways m_wins)) (by with_unfolding_all rfl) ?_
  by_cases hc1 : p1 = (0 : Int32)
  · rw [if_pos hc1] at hf
    refine kn_Q_tab (x := p1) (kk := (0 : Int32)) (lo := 0) (hi := 7) (d := 104) (ts := [48, 55, 62, 69, 76, 84, 89, 96]) (t := 48) (l := [(0, .ref 35), (1, .int p1)]) (r := []) (by with_unfolding_all rfl) hc1 (by with_unfolding_all rfl) ?_
    refine kn_P_steps 4 (f1 := (54, [(0, .ref 35), (1, .int p1)], [.int (m_now 5)])) (h1 := (kn_hp L xs r_t_kinds r_t_holds r_t_barred r_t_parties r_t_size r_p_numbers r_p_size r_firms r_tied r_wars r_wet r_day r_drawn k_t_kinds k_t_holds k_t_barred k_t_parties k_t_size k_p_numbers k_p_size k_firms k_tied k_wars k_wet k_day k_drawn f_depths f_bars f_ways d_letters d_t_kinds d_t_holds d_t_barred d_t_parties d_t_size d_size d_at s_lanes s_sizes s_items isKept m_lane m_size m_item m_letters m_tape m_position m_number m_now m_tried m_read m_kept m_isKept m_ways m_wins)) (by with_unfolding_all rfl) ?_
    replace hf := Option.some.inj hf
    subst hf
    exact kn_Q_ret (v := some (.int (m_now 5))) (by with_unfolding_all rfl) ⟨rfl, rfl⟩
  · rw [if_neg hc1] at hf
    by_cases hc2 : p1 = (1 : Int32)
    · rw [if_pos hc2] at hf
      refine kn_Q_tab (x := p1) (kk := (1 : Int32)) (lo := 0) (hi := 7) (d := 104) (ts := [48, 55, 62, 69, 76, 84, 89, 96]) (t := 55) (l := [(0, .ref 35), (1, .int p1)]) (r := []) (by with_unfolding_all rfl) hc2 (by with_unfolding_all rfl) ?_
      refine kn_P_steps 4 (f1 := (61, [(0, .ref 35), (1, .int p1)], [.int (m_now 0)])) (h1 := (kn_hp L xs r_t_kinds r_t_holds r_t_barred r_t_parties r_t_size r_p_numbers r_p_size r_firms r_tied r_wars r_wet r_day r_drawn k_t_kinds k_t_holds k_t_barred k_t_parties k_t_size k_p_numbers k_p_size k_firms k_tied k_wars k_wet k_day k_drawn f_depths f_bars f_ways d_letters d_t_kinds d_t_holds d_t_barred d_t_parties d_t_size d_size d_at s_lanes s_sizes s_items isKept m_lane m_size m_item m_letters m_tape m_position m_number m_now m_tried m_read m_kept m_isKept m_ways m_wins)) (by with_unfolding_all rfl) ?_
      replace hf := Option.some.inj hf
      subst hf
      exact kn_Q_ret (v := some (.int (m_now 0))) (by with_unfolding_all rfl) ⟨rfl, rfl⟩
    · rw [if_neg hc2] at hf
      by_cases hc3 : p1 = (2 : Int32)
      · rw [if_pos hc3] at hf
        refine kn_Q_tab (x := p1) (kk := (2 : Int32)) (lo := 0) (hi := 7) (d := 104) (ts := [48, 55, 62, 69, 76, 84, 89, 96]) (t := 62) (l := [(0, .ref 35), (1, .int p1)]) (r := []) (by with_unfolding_all rfl) hc3 (by with_unfolding_all rfl) ?_
        refine kn_P_steps 4 (f1 := (68, [(0, .ref 35), (1, .int p1)], [.int (m_now 3)])) (h1 := (kn_hp L xs r_t_kinds r_t_holds r_t_barred r_t_parties r_t_size r_p_numbers r_p_size r_firms r_tied r_wars r_wet r_day r_drawn k_t_kinds k_t_holds k_t_barred k_t_parties k_t_size k_p_numbers k_p_size k_firms k_tied k_wars k_wet k_day k_drawn f_depths f_bars f_ways d_letters d_t_kinds d_t_holds d_t_barred d_t_parties d_t_size d_size d_at s_lanes s_sizes s_items isKept m_lane m_size m_item m_letters m_tape m_position m_number m_now m_tried m_read m_kept m_isKept m_ways m_wins)) (by with_unfolding_all rfl) ?_
        replace hf := Option.some.inj hf
        subst hf
        exact kn_Q_ret (v := some (.int (m_now 3))) (by with_unfolding_all rfl) ⟨rfl, rfl⟩
      · rw [if_neg hc3] at hf
        by_cases hc4 : p1 = (3 : Int32)
        · rw [if_pos hc4] at hf
          refine kn_Q_tab (x := p1) (kk := (3 : Int32)) (lo := 0) (hi := 7) (d := 104) (ts := [48, 55, 62, 69, 76, 84, 89, 96]) (t := 69) (l := [(0, .ref 35), (1, .int p1)]) (r := []) (by with_unfolding_all rfl) hc4 (by with_unfolding_all rfl) ?_
          refine kn_P_steps 4 (f1 := (75, [(0, .ref 35), (1, .int p1)], [.int (m_now 2)])) (h1 := (kn_hp L xs r_t_kinds r_t_holds r_t_barred r_t_parties r_t_size r_p_numbers r_p_size r_firms r_tied r_wars r_wet r_day r_drawn k_t_kinds k_t_holds k_t_barred k_t_parties k_t_size k_p_numbers k_p_size k_firms k_tied k_wars k_wet k_day k_drawn f_depths f_bars f_ways d_letters d_t_kinds d_t_holds d_t_barred d_t_parties d_t_size d_size d_at s_lanes s_sizes s_items isKept m_lane m_size m_item m_letters m_tape m_position m_number m_now m_tried m_read m_kept m_isKept m_ways m_wins)) (by with_unfolding_all rfl) ?_
          replace hf := Option.some.inj hf
          subst hf
          exact kn_Q_ret (v := some (.int (m_now 2))) (by with_unfolding_all rfl) ⟨rfl, rfl⟩
        · rw [if_neg hc4] at hf
          by_cases hc5 : p1 = (4 : Int32)
          · rw [if_pos hc5] at hf
            refine kn_Q_tab (x := p1) (kk := (4 : Int32)) (lo := 0) (hi := 7) (d := 104) (ts := [48, 55, 62, 69, 76, 84, 89, 96]) (t := 76) (l := [(0, .ref 35), (1, .int p1)]) (r := []) (by with_unfolding_all rfl) hc5 (by with_unfolding_all rfl) ?_
            refine kn_P_steps 2 (f1 := (80, [(0, .ref 35), (1, .int p1)], [.ref 40])) (h1 := (kn_hp L xs r_t_kinds r_t_holds r_t_barred r_t_parties r_t_size r_p_numbers r_p_size r_firms r_tied r_wars r_wet r_day r_drawn k_t_kinds k_t_holds k_t_barred k_t_parties k_t_size k_p_numbers k_p_size k_firms k_tied k_wars k_wet k_day k_drawn f_depths f_bars f_ways d_letters d_t_kinds d_t_holds d_t_barred d_t_parties d_t_size d_size d_at s_lanes s_sizes s_items isKept m_lane m_size m_item m_letters m_tape m_position m_number m_now m_tried m_read m_kept m_isKept m_ways m_wins)) (by with_unfolding_all rfl) ?_
            cases e6 : f_X7_freeIn m_now with
            | none => rw [e6] at hf; cases hf
            | some q1 =>
              rw [e6] at hf
              dsimp only at hf
              refine kn_Q_call (M1 := km_X7_freeIn) (j := 129) (as := [.ref 40]) (f1 := (83, [(0, .ref 35), (1, .int p1)], [])) (f0 := (0, [(0, .ref 40)], [])) (by with_unfolding_all rfl) (by with_unfolding_all rfl) (by with_unfolding_all rfl) (mt_X7_freeIn e6) (fun v9 h9 q9 => ?_)
              obtain ⟨rfl, rfl⟩ := q9
              replace hf := Option.some.inj hf
              subst hf
              exact kn_Q_ret (v := some (.int q1)) (by with_unfolding_all rfl) ⟨rfl, rfl⟩
          · rw [if_neg hc5] at hf
            by_cases hc7 : p1 = (5 : Int32)
            · rw [if_pos hc7] at hf
              refine kn_Q_tab (x := p1) (kk := (5 : Int32)) (lo := 0) (hi := 7) (d := 104) (ts := [48, 55, 62, 69, 76, 84, 89, 96]) (t := 84) (l := [(0, .ref 35), (1, .int p1)]) (r := []) (by with_unfolding_all rfl) hc7 (by with_unfolding_all rfl) ?_
              refine kn_P_steps 1 (f1 := (85, [(0, .ref 35), (1, .int p1)], [.ref 35])) (h1 := (kn_hp L xs r_t_kinds r_t_holds r_t_barred r_t_parties r_t_size r_p_numbers r_p_size r_firms r_tied r_wars r_wet r_day r_drawn k_t_kinds k_t_holds k_t_barred k_t_parties k_t_size k_p_numbers k_p_size k_firms k_tied k_wars k_wet k_day k_drawn f_depths f_bars f_ways d_letters d_t_kinds d_t_holds d_t_barred d_t_parties d_t_size d_size d_at s_lanes s_sizes s_items isKept m_lane m_size m_item m_letters m_tape m_position m_number m_now m_tried m_read m_kept m_isKept m_ways m_wins)) (by with_unfolding_all rfl) ?_
              cases e8 : f_X7_boundOnes m_now with
              | none => rw [e8] at hf; cases hf
              | some q2 =>
                rw [e8] at hf
                dsimp only at hf
                refine kn_Q_call (M1 := km_X7_boundOnes) (j := 130) (as := [.ref 35]) (f1 := (88, [(0, .ref 35), (1, .int p1)], [])) (f0 := (0, [(0, .ref 35)], [])) (by with_unfolding_all rfl) (by with_unfolding_all rfl) (by with_unfolding_all rfl) (mt_X7_boundOnes e8) (fun v9 h9 q9 => ?_)
                obtain ⟨rfl, rfl⟩ := q9
                replace hf := Option.some.inj hf
                subst hf
                exact kn_Q_ret (v := some (.int q2)) (by with_unfolding_all rfl) ⟨rfl, rfl⟩
            · rw [if_neg hc7] at hf
              by_cases hc9 : p1 = (6 : Int32)
              · rw [if_pos hc9] at hf
                refine kn_Q_tab (x := p1) (kk := (6 : Int32)) (lo := 0) (hi := 7) (d := 104) (ts := [48, 55, 62, 69, 76, 84, 89, 96]) (t := 89) (l := [(0, .ref 35), (1, .int p1)]) (r := []) (by with_unfolding_all rfl) hc9 (by with_unfolding_all rfl) ?_
                refine kn_P_steps 4 (f1 := (95, [(0, .ref 35), (1, .int p1)], [.int (m_now 4)])) (h1 := (kn_hp L xs r_t_kinds r_t_holds r_t_barred r_t_parties r_t_size r_p_numbers r_p_size r_firms r_tied r_wars r_wet r_day r_drawn k_t_kinds k_t_holds k_t_barred k_t_parties k_t_size k_p_numbers k_p_size k_firms k_tied k_wars k_wet k_day k_drawn f_depths f_bars f_ways d_letters d_t_kinds d_t_holds d_t_barred d_t_parties d_t_size d_size d_at s_lanes s_sizes s_items isKept m_lane m_size m_item m_letters m_tape m_position m_number m_now m_tried m_read m_kept m_isKept m_ways m_wins)) (by with_unfolding_all rfl) ?_
                replace hf := Option.some.inj hf
                subst hf
                exact kn_Q_ret (v := some (.int (m_now 4))) (by with_unfolding_all rfl) ⟨rfl, rfl⟩
              · rw [if_neg hc9] at hf
                by_cases hc10 : p1 = (7 : Int32)
                · rw [if_pos hc10] at hf
                  refine kn_Q_tab (x := p1) (kk := (7 : Int32)) (lo := 0) (hi := 7) (d := 104) (ts := [48, 55, 62, 69, 76, 84, 89, 96]) (t := 96) (l := [(0, .ref 35), (1, .int p1)]) (r := []) (by with_unfolding_all rfl) hc10 (by with_unfolding_all rfl) ?_
                  refine kn_P_steps 4 (f1 := (103, [(0, .ref 35), (1, .int p1)], [.int (m_now 38)])) (h1 := (kn_hp L xs r_t_kinds r_t_holds r_t_barred r_t_parties r_t_size r_p_numbers r_p_size r_firms r_tied r_wars r_wet r_day r_drawn k_t_kinds k_t_holds k_t_barred k_t_parties k_t_size k_p_numbers k_p_size k_firms k_tied k_wars k_wet k_day k_drawn f_depths f_bars f_ways d_letters d_t_kinds d_t_holds d_t_barred d_t_parties d_t_size d_size d_at s_lanes s_sizes s_items isKept m_lane m_size m_item m_letters m_tape m_position m_number m_now m_tried m_read m_kept m_isKept m_ways m_wins)) (by with_unfolding_all rfl) ?_
                  replace hf := Option.some.inj hf
                  subst hf
                  exact kn_Q_ret (v := some (.int (m_now 38))) (by with_unfolding_all rfl) ⟨rfl, rfl⟩
                · rw [if_neg hc10] at hf
                  refine kn_Q_tabN (x := p1) (lo := 0) (hi := 7) (ts := [48, 55, 62, 69, 76, 84, 89, 96]) (d := 104) (l := [(0, .ref 35), (1, .int p1)]) (r := []) (by with_unfolding_all rfl) (kn_tab_out (0) (7) 8 (by decide) (fun j hj => match j, hj with
                    | 0, _ => hc1
                    | 1, _ => hc2
                    | 2, _ => hc3
                    | 3, _ => hc4
                    | 4, _ => hc5
                    | 5, _ => hc7
                    | 6, _ => hc9
                    | 7, _ => hc10
                    | j + 8, hj => absurd hj (by omega))) ?_
                  refine kn_P_steps 1 (f1 := (105, [(0, .ref 35), (1, .int p1)], [.int (-1 : Int32)])) (h1 := (kn_hp L xs r_t_kinds r_t_holds r_t_barred r_t_parties r_t_size r_p_numbers r_p_size r_firms r_tied r_wars r_wet r_day r_drawn k_t_kinds k_t_holds k_t_barred k_t_parties k_t_size k_p_numbers k_p_size k_firms k_tied k_wars k_wet k_day k_drawn f_depths f_bars f_ways d_letters d_t_kinds d_t_holds d_t_barred d_t_parties d_t_size d_size d_at s_lanes s_sizes s_items isKept m_lane m_size m_item m_letters m_tape m_position m_number m_now m_tried m_read m_kept m_isKept m_ways m_wins)) (by with_unfolding_all rfl) ?_
                  replace hf := Option.some.inj hf
                  subst hf
                  exact kn_Q_ret (v := some (.int (-1 : Int32))) (by with_unfolding_all rfl) ⟨rfl, rfl⟩
set_option maxRecDepth 100000 in
set_option maxHeartbeats 4000000 in
theorem mt_X6_isForce {p0 : Int32} {r9 : Int32} (hf : f_X6_isForce p0 = r9) : kn_Post kn_T km_X6_isForce (0, [(0, .int p0)], []) (kn_hp L xs r_t_kinds r_t_holds r_t_barred r_t_parties r_t_size r_p_numbers r_p_size r_firms r_tied r_wars r_wet r_day r_drawn k_t_kinds k_t_holds k_t_barred k_t_parties k_t_size k_p_numbers k_p_size k_firms k_tied k_wars k_wet k_day k_drawn f_depths f_bars f_ways d_letters d_t_kinds d_t_holds d_t_barred d_t_parties d_t_size d_size d_at s_lanes s_sizes s_items isKept m_lane m_size m_item m_letters m_tape m_position m_number m_now m_tried m_read m_kept m_isKept m_ways m_wins) (fun v9 h9 => v9 = some (.int r9) ∧ h9 = (kn_hp L xs r_t_kinds r_t_holds r_t_barred r_t_parties r_t_size r_p_numbers r_p_size r_firms r_tied r_wars r_wet r_day r_drawn k_t_kinds k_t_holds k_t_barred k_t_parties k_t_size k_p_numbers k_p_size k_firms k_tied k_wars k_wet k_day k_drawn f_depths f_bars f_ways d_letters d_t_kinds d_t_holds d_t_barred d_t_parties d_t_size d_size d_at s_lanes s_sizes s_items isKept m_lane m_size m_item m_letters m_tape m_position m_number m_now m_tried m_read m_kept m_isKept m_ways m_wins) ∧ (r9 = 0 ∨ r9 = 1)) := by
  unfold f_X6_isForce at hf
  refine kn_P_steps 3 (f1 := (4, [(0, .int p0)], [.int (99 : Int32), .int (0 : Int32), .int p0])) (h1 := (kn_hp L xs r_t_kinds r_t_holds r_t_barred r_t_parties r_t_size r_p_numbers r_p_size r_firms r_tied r_wars r_wet r_day r_drawn k_t_kinds k_t_holds k_t_barred k_t_parties k_t_size k_p_numbers k_p_size k_firms k_tied k_wars k_wet k_day k_drawn f_depths f_bars f_ways d_letters d_t_kinds d_t_holds d_t_barred d_t_parties d_t_size d_size d_at s_lanes s_sizes s_items isKept m_lane m_size m_item m_letters m_tape m_position m_number m_now m_tried m_read m_kept m_isKept m_ways m_wins)) (by with_unfolding_all rfl) ?_
  refine kn_Q_call (M1 := km_X6_isWithin) (j := 91) (as := [.int p0, .int (0 : Int32), .int (99 : Int32)]) (f1 := (7, [(0, .int p0)], [])) (f0 := (0, [(0, .int p0), (1, .int (0 : Int32)), (2, .int (99 : Int32))], [])) (by with_unfolding_all rfl) (by with_unfolding_all rfl) (by with_unfolding_all rfl) (mt_X6_isWithin rfl) (fun v9 h9 q9 => ?_)
  obtain ⟨rfl, rfl, hz1⟩ := q9
  subst hf
  exact kn_Q_retz (x := (f_X6_isWithin p0 (0 : Int32) (99 : Int32))) (by with_unfolding_all rfl) hz1 ⟨rfl, rfl, hz1⟩
set_option maxRecDepth 100000 in
set_option maxHeartbeats 4000000 in
theorem mt_X2_makeRoom  {r9 : Int32 × (Nat → Int32) × Int32} (hf : f_X2_makeRoom r_p_numbers r_p_size = some r9) : kn_Post kn_T km_X2_makeRoom (0, [(0, .ref 8)], []) (kn_hp L xs r_t_kinds r_t_holds r_t_barred r_t_parties r_t_size r_p_numbers r_p_size r_firms r_tied r_wars r_wet r_day r_drawn k_t_kinds k_t_holds k_t_barred k_t_parties k_t_size k_p_numbers k_p_size k_firms k_tied k_wars k_wet k_day k_drawn f_depths f_bars f_ways d_letters d_t_kinds d_t_holds d_t_barred d_t_parties d_t_size d_size d_at s_lanes s_sizes s_items isKept m_lane m_size m_item m_letters m_tape m_position m_number m_now m_tried m_read m_kept m_isKept m_ways m_wins) (fun v9 h9 => v9 = some (.int r9.1) ∧ h9 = (kn_hp L xs r_t_kinds r_t_holds r_t_barred r_t_parties r_t_size r9.2.1 r9.2.2 r_firms r_tied r_wars r_wet r_day r_drawn k_t_kinds k_t_holds k_t_barred k_t_parties k_t_size k_p_numbers k_p_size k_firms k_tied k_wars k_wet k_day k_drawn f_depths f_bars f_ways d_letters d_t_kinds d_t_holds d_t_barred d_t_parties d_t_size d_size d_at s_lanes s_sizes s_items isKept m_lane m_size m_item m_letters m_tape m_position m_number m_now m_tried m_read m_kept m_isKept m_ways m_wins)) := by
  unfold f_X2_makeRoom at hf
  refine kn_P_steps 3 (f1 := (6, [(0, .ref 8)], [.int (8 : Int32), .int r_p_size])) (h1 := (kn_hp L xs r_t_kinds r_t_holds r_t_barred r_t_parties r_t_size r_p_numbers r_p_size r_firms r_tied r_wars r_wet r_day r_drawn k_t_kinds k_t_holds k_t_barred k_t_parties k_t_size k_p_numbers k_p_size k_firms k_tied k_wars k_wet k_day k_drawn f_depths f_bars f_ways d_letters d_t_kinds d_t_holds d_t_barred d_t_parties d_t_size d_size d_at s_lanes s_sizes s_items isKept m_lane m_size m_item m_letters m_tape m_position m_number m_now m_tried m_read m_kept m_isKept m_ways m_wins)) (by with_unfolding_all rfl) ?_
  refine kn_Q_if (c := r_p_size < (8 : Int32)) (t := 30) (n := 9) (l1 := [(0, .ref 8)]) (s1 := []) (by with_unfolding_all rfl) (fun hc1 => ?_) (fun hc1 => ?_)
  · rw [if_pos hc1] at hf
    refine kn_P_steps 12 (f1 := (48, [(0, .ref 8)], [.int (((r_p_size + (1 : Int32)) - (1 : Int32)) * (5 : Int32))])) (h1 := (kn_hp L xs r_t_kinds r_t_holds r_t_barred r_t_parties r_t_size r_p_numbers (r_p_size + (1 : Int32)) r_firms r_tied r_wars r_wet r_day r_drawn k_t_kinds k_t_holds k_t_barred k_t_parties k_t_size k_p_numbers k_p_size k_firms k_tied k_wars k_wet k_day k_drawn f_depths f_bars f_ways d_letters d_t_kinds d_t_holds d_t_barred d_t_parties d_t_size d_size d_at s_lanes s_sizes s_items isKept m_lane m_size m_item m_letters m_tape m_position m_number m_now m_tried m_read m_kept m_isKept m_ways m_wins)) (by with_unfolding_all rfl) ?_
    replace hf := Option.some.inj hf
    subst hf
    exact kn_Q_ret (v := some (.int (((r_p_size + (1 : Int32)) - (1 : Int32)) * (5 : Int32)))) (by with_unfolding_all rfl) ⟨rfl, rfl⟩
  · rw [if_neg hc1] at hf
    refine kn_P_steps 23 (f1 := (48, [(0, .ref 8)], [.int (35 : Int32)])) (h1 := (kn_hp L xs r_t_kinds r_t_holds r_t_barred r_t_parties r_t_size (va_cpy r_p_numbers r_p_numbers 5 0 35) (8 : Int32) r_firms r_tied r_wars r_wet r_day r_drawn k_t_kinds k_t_holds k_t_barred k_t_parties k_t_size k_p_numbers k_p_size k_firms k_tied k_wars k_wet k_day k_drawn f_depths f_bars f_ways d_letters d_t_kinds d_t_holds d_t_barred d_t_parties d_t_size d_size d_at s_lanes s_sizes s_items isKept m_lane m_size m_item m_letters m_tape m_position m_number m_now m_tried m_read m_kept m_isKept m_ways m_wins)) (by with_unfolding_all rfl) ?_
    replace hf := Option.some.inj hf
    subst hf
    exact kn_Q_ret (v := some (.int (35 : Int32))) (by with_unfolding_all rfl) ⟨rfl, rfl⟩
end KL4
