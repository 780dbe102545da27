/-! WHAT THE HOUR LEAVES AS IT IS (printed by gen60.py) -/
theorem fm_X7_endHour {I : Mem} : FO KI Prod.snd I (fX7_endHour I) := by
  unfold fX7_endHour
  refine FO.m fm_begin fun I1 h1 => ?_
  refine FO.o2 (FO.tr h1 (fm_X5_openRow (by omega))) fun x2 I3 h3 => ?_
  refine FO.m (FO.tr h3 (fm_X5_tellLevel (by omega))) fun I4 h4 => ?_
  refine FO.b fun x5 => ?_
  refine FO.o2 (FO.i ?_ (FO.s2 h4)) fun x11 I12 h12 => ?_
  · refine FO.m (FO.tr h4 (fm_X5_countStrikes (by omega))) fun I6 h6 => ?_
    refine FO.m (FO.tr h6 (fm_X5_countAgreed (by omega))) fun I7 h7 => ?_
    refine FO.m (FO.tr h7 (fm_X5_trustAgain (by omega))) fun I8 h8 => ?_
    exact FO.o2 (FO.tr h8 (fm_X5_dragVoters (by omega))) fun x9 I10 h10 => FO.s2 h10
  · refine FO.m (FO.tr (h12.w (by unfold KI; omega)) (fm_X5_takeOut (by omega))) fun I13 h13 => ?_
    refine FO.m (FO.tr h13 (fm_X0_forgetReports (by omega))) fun I14 h14 => ?_
    exact FO.b fun x15 => FO.s2 h14
