theorem m_lift {k : Nat} {Sx Sm : St} (hR : Rel k Sx Sm) (a1 : Int32) (a2 : Int32) (a3 : Int32) (a4 : Int32) : ∃ (r : Int32) (Sx' Sm' : St), F_X7_lift Sx a1 a2 a3 a4 = some (r, Sx') ∧ F_X8_lift Sm a1 a2 a3 a4 = some (r, Sm') ∧ Rel k Sx' Sm' := by
  sorry
theorem m_of {k : Nat} {Sx Sm : St} (hR : Rel k Sx Sm) (a1 : Int32) (a2 : Int32) : ∃ (r : Int32) (Sx' Sm' : St), F_X7_of Sx a1 a2 = some (r, Sx') ∧ F_X8_of Sm a1 a2 = some (r, Sm') ∧ Rel k Sx' Sm' := by
  sorry
theorem m_pull {k : Nat} {Sx Sm : St} (hR : Rel k Sx Sm) (a1 : Int32) (a2 : Int32) : ∃ (r : Int32) (Sx' Sm' : St), F_X7_pull Sx a1 a2 = some (r, Sx') ∧ F_X8_pull Sm a1 a2 = some (r, Sm') ∧ Rel k Sx' Sm' := by
  sorry
theorem m_row {k : Nat} {Sx Sm : St} (hR : Rel k Sx Sm) (a1 : Int32) (a2 : Int32) (a3 : Int32) : ∃ (r : Int32) (Sx' Sm' : St), F_X7_row Sx a1 a2 a3 = some (r, Sx') ∧ F_X8_row Sm a1 a2 a3 = some (r, Sm') ∧ Rel k Sx' Sm' := by
  sorry
theorem m_feed {k : Nat} {Sx Sm : St} (hR : Rel k Sx Sm) (a1 : Int32) : ∃ (r : Int32) (Sx' Sm' : St), F_X7_feed Sx a1 = some (r, Sx') ∧ F_X8_feed Sm a1 = some (r, Sm') ∧ Rel k Sx' Sm' := by
  sorry
theorem m_home {k : Nat} {Sx Sm : St} (hR : Rel k Sx Sm) (a1 : Int32) : ∃ (r : Int32) (Sx' Sm' : St), F_X7_home Sx a1 = some (r, Sx') ∧ F_X8_home Sm a1 = some (r, Sm') ∧ Rel k Sx' Sm' := by
  sorry
theorem m_height {k : Nat} {Sx Sm : St} (hR : Rel k Sx Sm) (a1 : Int32) : ∃ (r : Int32) (Sx' Sm' : St), F_X7_height Sx a1 = some (r, Sx') ∧ F_X8_height Sm a1 = some (r, Sm') ∧ Rel k Sx' Sm' := by
  sorry
theorem m_told {k : Nat} {Sx Sm : St} (hR : Rel k Sx Sm) (a1 : Int32) : ∃ (r : Int32) (Sx' Sm' : St), F_X7_told Sx a1 = some (r, Sx') ∧ F_X8_told Sm a1 = some (r, Sm') ∧ Rel k Sx' Sm' := by
  sorry
theorem m_enter {k : Nat} {Sx Sm : St} (hR : Rel k Sx Sm) (a1 : Int32) : ∃ (r : Int32) (Sx' Sm' : St), F_X7_enter Sx a1 = some (r, Sx') ∧ F_X8_enter Sm a1 = some (r, Sm') ∧ Rel k Sx' Sm' := by
  sorry
theorem m_turn {k : Nat} {Sx Sm : St} (hR : Rel k Sx Sm) (a1 : Int32) : ∃ (r : Int32) (Sx' Sm' : St), F_X7_turn Sx a1 = some (r, Sx') ∧ F_X8_turn Sm a1 = some (r, Sm') ∧ Rel k Sx' Sm' := by
  sorry
theorem m_glide {k : Nat} {Sx Sm : St} (hR : Rel k Sx Sm) (a1 : Int32) (a2 : Int32) : ∃ (r : Int32) (Sx' Sm' : St), F_X7_glide Sx a1 a2 = some (r, Sx') ∧ F_X8_glide Sm a1 a2 = some (r, Sm') ∧ Rel k Sx' Sm' := by
  sorry
theorem m_up {k : Nat} {Sx Sm : St} (hR : Rel k Sx Sm) (a1 : Int32) (a2 : Int32) : ∃ (r : Int32) (Sx' Sm' : St), F_X7_up Sx a1 a2 = some (r, Sx') ∧ F_X8_up Sm a1 a2 = some (r, Sm') ∧ Rel k Sx' Sm' := by
  sorry
theorem m_top {k : Nat} {Sx Sm : St} (hR : Rel k Sx Sm) (a1 : Int32) (a2 : Int32) : ∃ (r : Int32) (Sx' Sm' : St), F_X7_top Sx a1 a2 = some (r, Sx') ∧ F_X8_top Sm a1 a2 = some (r, Sm') ∧ Rel k Sx' Sm' := by
  sorry
theorem m_arrives {k : Nat} {Sx Sm : St} (hR : Rel k Sx Sm) (a1 : Int32) (a2 : Int32) : ∃ (r : Int32) (Sx' Sm' : St), F_X7_arrives Sx a1 a2 = some (r, Sx') ∧ F_X8_arrives Sm a1 a2 = some (r, Sm') ∧ Rel k Sx' Sm' := by
  sorry
theorem m_outed {k : Nat} {Sx Sm : St} (hR : Rel k Sx Sm) (a1 : Int32) (a2 : Int32) : ∃ (r : Int32) (Sx' Sm' : St), F_X7_outed Sx a1 a2 = some (r, Sx') ∧ F_X8_outed Sm a1 a2 = some (r, Sm') ∧ Rel k Sx' Sm' := by
  sorry
theorem m_reach {k : Nat} {Sx Sm : St} (hR : Rel k Sx Sm) (a1 : Int32) : ∃ (r : Int32) (Sx' Sm' : St), F_X7_reach Sx a1 = some (r, Sx') ∧ F_X8_reach Sm a1 = some (r, Sm') ∧ Rel k Sx' Sm' := by
  sorry
theorem m_next {k : Nat} {Sx Sm : St} (hR : Rel k Sx Sm) (a1 : Int32) : ∃ (r : Int32) (Sx' Sm' : St), F_X7_next Sx a1 = some (r, Sx') ∧ F_X8_next Sm a1 = some (r, Sm') ∧ Rel k Sx' Sm' := by
  sorry
theorem m_lowest {k : Nat} {Sx Sm : St} (hR : Rel k Sx Sm) (a1 : Int32) (a2 : Int32) : ∃ (r : Int32) (Sx' Sm' : St), F_X7_lowest Sx a1 a2 = some (r, Sx') ∧ F_X8_lowest Sm a1 a2 = some (r, Sm') ∧ Rel k Sx' Sm' := by
  sorry
theorem m_by {k : Nat} {Sx Sm : St} (hR : Rel k Sx Sm) (a1 : Int32) (a2 : Int32) (a3 : Int32) : ∃ (r : Int32) (Sx' Sm' : St), F_X7_by Sx a1 a2 a3 = some (r, Sx') ∧ F_X8_by Sm a1 a2 a3 = some (r, Sm') ∧ Rel k Sx' Sm' := by
  sorry
theorem m_straight {k : Nat} {Sx Sm : St} (hR : Rel k Sx Sm) (a1 : Int32) : ∃ (r : Int32) (Sx' Sm' : St), F_X7_straight Sx a1 = some (r, Sx') ∧ F_X8_straight Sm a1 = some (r, Sm') ∧ Rel k Sx' Sm' := by
  sorry
theorem m_best {k : Nat} {Sx Sm : St} (hR : Rel k Sx Sm) (a1 : Int32) : ∃ (r : Int32) (Sx' Sm' : St), F_X7_best Sx a1 = some (r, Sx') ∧ F_X8_best Sm a1 = some (r, Sm') ∧ Rel k Sx' Sm' := by
  sorry
theorem m_two {k : Nat} {Sx Sm : St} (hR : Rel k Sx Sm) (a1 : Int32) (a2 : Int32) : ∃ (r : Int32) (Sx' Sm' : St), F_X7_two Sx a1 a2 = some (r, Sx') ∧ F_X8_two Sm a1 a2 = some (r, Sm') ∧ Rel k Sx' Sm' := by
  sorry
theorem m_worth {k : Nat} {Sx Sm : St} (hR : Rel k Sx Sm) (a1 : Int32) : ∃ (r : Int32) (Sx' Sm' : St), F_X7_worth Sx a1 = some (r, Sx') ∧ F_X8_worth Sm a1 = some (r, Sm') ∧ Rel k Sx' Sm' := by
  sorry
theorem m_leg {k : Nat} {Sx Sm : St} (hR : Rel k Sx Sm) (a1 : Int32) (a2 : Int32) : ∃ (r : Int32) (Sx' Sm' : St), F_X7_leg Sx a1 a2 = some (r, Sx') ∧ F_X8_leg Sm a1 a2 = some (r, Sm') ∧ Rel k Sx' Sm' := by
  sorry
theorem m_flown {k : Nat} {Sx Sm : St} (hR : Rel k Sx Sm) (a1 : Int32) (a2 : Int32) : ∃ (r : Int32) (Sx' Sm' : St), F_X7_flown Sx a1 a2 = some (r, Sx') ∧ F_X8_flown Sm a1 a2 = some (r, Sm') ∧ Rel k Sx' Sm' := by
  sorry
theorem m_see {k : Nat} {Sx Sm : St} (hR : Rel k Sx Sm) (a1 : Int32) : ∃ (r : Int32) (Sx' Sm' : St), F_X7_see Sx a1 = some (r, Sx') ∧ F_X8_see Sm a1 = some (r, Sm') ∧ Rel k Sx' Sm' := by
  sorry
theorem m_who {k : Nat} {Sx Sm : St} (hR : Rel k Sx Sm) : ∃ (r : Int32) (Sx' Sm' : St), F_X7_who Sx  = some (r, Sx') ∧ F_X8_who Sm  = some (r, Sm') ∧ Rel k Sx' Sm' := by
  sorry
theorem m_odds {k : Nat} {Sx Sm : St} (hR : Rel k Sx Sm) (a1 : Int32) (a2 : Int32) (a3 : Int32) : ∃ (r : Int64) (Sx' Sm' : St), F_X7_odds Sx a1 a2 a3 = some (r, Sx') ∧ F_X8_odds Sm a1 a2 a3 = some (r, Sm') ∧ Rel k Sx' Sm' := by
  sorry
theorem m_mean {k : Nat} {Sx Sm : St} (hR : Rel k Sx Sm) (a1 : Int32) (a2 : Int32) : ∃ (r : Int64) (Sx' Sm' : St), F_X7_mean Sx a1 a2 = some (r, Sx') ∧ F_X8_mean Sm a1 a2 = some (r, Sm') ∧ Rel k Sx' Sm' := by
  sorry
theorem m_book {k : Nat} {Sx Sm : St} (hR : Rel k Sx Sm) (a1 : Int32) (a2 : Int32) : ∃ (r : Int32) (Sx' Sm' : St), F_X7_book Sx a1 a2 = some (r, Sx') ∧ F_X8_book Sm a1 a2 = some (r, Sm') ∧ Rel k Sx' Sm' := by
  sorry
theorem m_looked {k : Nat} {Sx Sm : St} (hR : Rel k Sx Sm) : ∃ (r : Int32) (Sx' Sm' : St), F_X7_looked Sx  = some (r, Sx') ∧ F_X8_looked Sm  = some (r, Sm') ∧ Rel k Sx' Sm' := by
  sorry
theorem m_judge {k : Nat} {Sx Sm : St} (hR : Rel k Sx Sm) (a1 : Int32) (a2 : Int32) : ∃ (r : Int32) (Sx' Sm' : St), F_X7_judge Sx a1 a2 = some (r, Sx') ∧ F_X8_judge Sm a1 a2 = some (r, Sm') ∧ Rel k Sx' Sm' := by
  sorry
theorem m_image {k : Nat} {Sx Sm : St} (hR : Rel k Sx Sm) : ∃ (r : Int32) (Sx' Sm' : St), F_X7_image Sx  = some (r, Sx') ∧ F_X8_image Sm  = some (r, Sm') ∧ Rel k Sx' Sm' := by
  sorry
theorem m_undo {k : Nat} {Sx Sm : St} (hR : Rel k Sx Sm) : ∃ (r : Int32) (Sx' Sm' : St), F_X7_undo Sx  = some (r, Sx') ∧ F_X8_undo Sm  = some (r, Sm') ∧ Rel k Sx' Sm' := by
  sorry
theorem m_act {k : Nat} {Sx Sm : St} (hR : Rel k Sx Sm) (a1 : Int32) (a2 : Int32) (a3 : Int32) : ∃ (r : Int32) (Sx' Sm' : St), F_X7_act Sx a1 a2 a3 = some (r, Sx') ∧ F_X8_act Sm a1 a2 a3 = some (r, Sm') ∧ Rel k Sx' Sm' := by
  sorry
theorem m_trace {k : Nat} {Sx Sm : St} (hR : Rel k Sx Sm) (a1 : Int32) : ∃ (r : Int32) (Sx' Sm' : St), F_X7_trace Sx a1 = some (r, Sx') ∧ F_X8_trace Sm a1 = some (r, Sm') ∧ Rel k Sx' Sm' := by
  sorry
theorem m_taken {k : Nat} {Sx Sm : St} (hR : Rel k Sx Sm) (a1 : Int32) (a2 : Int32) : ∃ (r : Int32) (Sx' Sm' : St), F_X7_taken Sx a1 a2 = some (r, Sx') ∧ F_X8_taken Sm a1 a2 = some (r, Sm') ∧ Rel k Sx' Sm' := by
  sorry
theorem m_count {k : Nat} {Sx Sm : St} (hR : Rel k Sx Sm) (a1 : Int32) : ∃ (r : Int32) (Sx' Sm' : St), F_X7_count Sx a1 = some (r, Sx') ∧ F_X8_count Sm a1 = some (r, Sm') ∧ Rel k Sx' Sm' := by
  sorry
theorem m_tape {k : Nat} {Sx Sm : St} (hR : Rel k Sx Sm) (a1 : Int32) (a2 : Int32) (a3 : Int32) : ∃ (r : Int32) (Sx' Sm' : St), F_X7_tape Sx a1 a2 a3 = some (r, Sx') ∧ F_X8_tape Sm a1 a2 a3 = some (r, Sm') ∧ Rel k Sx' Sm' := by
  sorry
theorem m_item {k : Nat} {Sx Sm : St} (hR : Rel k Sx Sm) (a1 : Int32) (a2 : Int32) (a3 : Int64) : ∃ (r : Int32) (Sx' Sm' : St), F_X7_item Sx a1 a2 a3 = some (r, Sx') ∧ F_X8_item Sm a1 a2 a3 = some (r, Sm') ∧ Rel k Sx' Sm' := by
  sorry
theorem m_read {k : Nat} {Sx Sm : St} (hR : Rel k Sx Sm) (a1 : Int32) (a2 : Int32) : ∃ (r : Int64) (Sx' Sm' : St), F_X7_read Sx a1 a2 = some (r, Sx') ∧ F_X8_read Sm a1 a2 = some (r, Sm') ∧ Rel k Sx' Sm' := by
  sorry
theorem m_shift {k : Nat} {Sx Sm : St} (hR : Rel k Sx Sm) (a1 : Int32) (a2 : Int32) (a3 : Int32) (a4 : Int32) (a5 : Int32) : ∃ (r : Int32) (Sx' Sm' : St), F_X7_shift Sx a1 a2 a3 a4 a5 = some (r, Sx') ∧ F_X8_shift Sm a1 a2 a3 a4 a5 = some (r, Sm') ∧ Rel k Sx' Sm' := by
  sorry
theorem m_air {k : Nat} {Sx Sm : St} (hR : Rel k Sx Sm) : ∃ (r : Int32) (k' : Nat) (Sx' Sm' : St), F_X7_air k Sx = some ((r, k'), Sx') ∧ F_X8_air Sm = some (r, Sm') ∧ Rel k' Sx' Sm' := by
  sorry
