/-! CALLS THAT LOOK AT ONE KEPT HOUR -/
theorem bits_lt {x : Int32} {c : Nat} (hc : c ≤ 10) (h : ∀ i, c ≤ i → bt x i = false) : ∀ i, 10 ≤ i → bt x i = false := fun i hi => h i (by omega)
theorem q_9 : eqP_9 Rel := by
  intro n I J hn hR p0 p1
  obtain ⟨c, e, ⟨h2, h10, h30, -⟩, ⟨J0, J5, J6⟩, ⟨I0, I7⟩, hW⟩ := hR.facts hn
  have t0 : (wr J 306 0 0) 306 0 = 0 := wr_s
  have K5 : (wr J 306 0 0) 307 5 = nI e := w7.trans J5
  have K6 : (wr J 306 0 0) 307 6 = nI (min e 24) := w7.trans J6
  unfold fX7_hour fX8_hour
  rcases inK h30 p0 with ⟨h, k, rfl⟩ | ho
  · rw [rok_i I7 h30 k, noH_i t0 K5 K6 h30 k]
    have hr : h % 24 < 24 := Nat.mod_lt _ (by omega)
    rcases inx (c := 5) (by omega) p1 with ⟨w, hw, rfl⟩ | hw
    · obtain ⟨e1, e2, e3, e4, e5, e6, -⟩ := hW.2.2.2.2 h k
      have b3 := (hW.1.2.2.2 h k).2.1
      have hw' : w = 0 ∨ w = 1 ∨ w = 2 ∨ w = 3 ∨ w = 4 := by omega
      rcases hw' with rfl | rfl | rfl | rfl | rfl
      · refine ⟨0, J 307 (hp e h), J 307 (hp e h), wr J 306 0 0, ?_, ?_, Rel.J0 hR 0, Or.inl ⟨rfl, wr_s, rfl⟩⟩
        · simp +decide (disch := omega) only [ob_s, ob2_some, ob3_some, ob4_some, pl2_mk, pl3_mk, pl4_mk, plet_d, reduceIte, ite_some, zbo_b, zbo_0, zbo_1, ite_b2i, ite_b2i1, b2i_t, b2i_f, Nat.succ_ne_zero, Nat.one_ne_zero, if_true, if_false, Bool.false_eq_true, wr_s, ite_self, L2, L3, L4, nI_eqP, nI_eq0, nI_eq1, ald_n]
          rw [show I 16 (h % 24) = _ from e1]
        · rw [ob2_some, if_pos rfl, within_i (nI_pos (by omega)) (by rw [L4, nI_ltP (by omega) (by omega)]; omega)]
          simp +decide (disch := omega) only [ob_s, ob2_some, ob3_some, ob4_some, pl2_mk, pl3_mk, pl4_mk, plet_d, reduceIte, ite_some, zbo_b, zbo_0, zbo_1, ite_b2i, ite_b2i1, b2i_t, b2i_f, Nat.succ_ne_zero, Nat.one_ne_zero, if_true, if_false, Bool.false_eq_true, wr_s, ite_self, thr_0 t0, show ¬ (1 : Int32) = 0 by decide, L3, nI_eqP, of_e K5 K6 h30 k, w7, Nat.add_zero]
      · refine ⟨0, J 307 (hp e h + 1), J 307 (hp e h + 1), wr J 306 0 0, ?_, ?_, Rel.J0 hR 0, Or.inl ⟨rfl, wr_s, rfl⟩⟩
        · simp +decide (disch := omega) only [ob_s, ob2_some, ob3_some, ob4_some, pl2_mk, pl3_mk, pl4_mk, plet_d, reduceIte, ite_some, zbo_b, zbo_0, zbo_1, ite_b2i, ite_b2i1, b2i_t, b2i_f, Nat.succ_ne_zero, Nat.one_ne_zero, if_true, if_false, Bool.false_eq_true, wr_s, ite_self, L2, L3, L4, nI_eqP, nI_eq0, nI_eq1, ald_n]
          rw [show I 17 (h % 24) = _ from e2]
        · rw [ob2_some, if_pos rfl, within_i (nI_pos (by omega)) (by rw [L4, nI_ltP (by omega) (by omega)]; omega)]
          simp +decide (disch := omega) only [ob_s, ob2_some, ob3_some, ob4_some, pl2_mk, pl3_mk, pl4_mk, plet_d, reduceIte, ite_some, zbo_b, zbo_0, zbo_1, ite_b2i, ite_b2i1, b2i_t, b2i_f, Nat.succ_ne_zero, Nat.one_ne_zero, if_true, if_false, Bool.false_eq_true, wr_s, ite_self, thr_0 t0, show ¬ (1 : Int32) = 0 by decide, L3, nI_eqP, of_e K5 K6 h30 k, w7, Nat.add_zero]
      · refine ⟨0, J 307 (hp e h + 2), J 307 (hp e h + 2), wr J 306 0 0, ?_, ?_, Rel.J0 hR 0, Or.inl ⟨rfl, wr_s, rfl⟩⟩
        · simp +decide (disch := omega) only [ob_s, ob2_some, ob3_some, ob4_some, pl2_mk, pl3_mk, pl4_mk, plet_d, reduceIte, ite_some, zbo_b, zbo_0, zbo_1, ite_b2i, ite_b2i1, b2i_t, b2i_f, Nat.succ_ne_zero, Nat.one_ne_zero, if_true, if_false, Bool.false_eq_true, wr_s, ite_self, L2, L3, L4, nI_eqP, nI_eq0, nI_eq1, ald_n]
          rw [show I 18 (h % 24) = _ from e3]
        · rw [ob2_some, if_pos rfl, within_i (nI_pos (by omega)) (by rw [L4, nI_ltP (by omega) (by omega)]; omega)]
          simp +decide (disch := omega) only [ob_s, ob2_some, ob3_some, ob4_some, pl2_mk, pl3_mk, pl4_mk, plet_d, reduceIte, ite_some, zbo_b, zbo_0, zbo_1, ite_b2i, ite_b2i1, b2i_t, b2i_f, Nat.succ_ne_zero, Nat.one_ne_zero, if_true, if_false, Bool.false_eq_true, wr_s, ite_self, thr_0 t0, show ¬ (1 : Int32) = 0 by decide, L3, nI_eqP, of_e K5 K6 h30 k, w7, Nat.add_zero]
      · refine ⟨0, pc10 (J 307 (hp e h + 3)), pc10 (J 307 (hp e h + 3)), wr J 306 0 0, ?_, ?_, Rel.J0 hR 0, Or.inl ⟨rfl, wr_s, rfl⟩⟩
        · simp +decide (disch := omega) only [ob_s, ob2_some, ob3_some, ob4_some, pl2_mk, pl3_mk, pl4_mk, plet_d, reduceIte, ite_some, zbo_b, zbo_0, zbo_1, ite_b2i, ite_b2i1, b2i_t, b2i_f, Nat.succ_ne_zero, Nat.one_ne_zero, if_true, if_false, Bool.false_eq_true, wr_s, ite_self, L2, L3, L4, nI_eqP, nI_eq0, nI_eq1, ald_n]
          rw [show I 20 (h % 24) = _ from e5, bc_e (bits_lt h10 b3)]
          rfl
        · rw [ob2_some, if_pos rfl, within_i (nI_pos (by omega)) (by rw [L4, nI_ltP (by omega) (by omega)]; omega)]
          simp +decide (disch := omega) only [ob_s, ob2_some, ob3_some, ob4_some, pl2_mk, pl3_mk, pl4_mk, plet_d, reduceIte, ite_some, zbo_b, zbo_0, zbo_1, ite_b2i, ite_b2i1, b2i_t, b2i_f, Nat.succ_ne_zero, Nat.one_ne_zero, if_true, if_false, Bool.false_eq_true, wr_s, ite_self, thr_0 t0, show ¬ (1 : Int32) = 0 by decide, L3, nI_eqP, of_e K5 K6 h30 k, w7, Nat.add_zero, bits8]
      · refine ⟨0, J 307 (hp e h + 4), J 307 (hp e h + 4), wr J 306 0 0, ?_, ?_, Rel.J0 hR 0, Or.inl ⟨rfl, wr_s, rfl⟩⟩
        · simp +decide (disch := omega) only [ob_s, ob2_some, ob3_some, ob4_some, pl2_mk, pl3_mk, pl4_mk, plet_d, reduceIte, ite_some, zbo_b, zbo_0, zbo_1, ite_b2i, ite_b2i1, b2i_t, b2i_f, Nat.succ_ne_zero, Nat.one_ne_zero, if_true, if_false, Bool.false_eq_true, wr_s, ite_self, L2, L3, L4, nI_eqP, nI_eq0, nI_eq1, ald_n]
          rw [show I 23 (h % 24) = _ from e6]
        · rw [ob2_some, if_pos rfl, within_i (nI_pos (by omega)) (by rw [L4, nI_ltP (by omega) (by omega)]; omega)]
          simp +decide (disch := omega) only [ob_s, ob2_some, ob3_some, ob4_some, pl2_mk, pl3_mk, pl4_mk, plet_d, reduceIte, ite_some, zbo_b, zbo_0, zbo_1, ite_b2i, ite_b2i1, b2i_t, b2i_f, Nat.succ_ne_zero, Nat.one_ne_zero, if_true, if_false, Bool.false_eq_true, wr_s, ite_self, thr_0 t0, show ¬ (1 : Int32) = 0 by decide, L3, nI_eqP, of_e K5 K6 h30 k, w7, Nat.add_zero]
    · refine ⟨2, 0, 0, wr (wr J 306 0 0) 306 0 2, ?_, ?_, wJ0 hR 2, Or.inr (Or.inr ⟨rfl, wr_s⟩)⟩
      · have hk := @wouts p1 5 (by omega) hw
        rw [ob2_some, if_pos rfl, if_neg (show ¬ p1 = (0 : Int32) from hk (k := 0) (by omega)), if_neg (show ¬ p1 = (1 : Int32) from hk (k := 1) (by omega)), if_neg (show ¬ p1 = (2 : Int32) from hk (k := 2) (by omega)), if_neg (show ¬ p1 = (3 : Int32) from hk (k := 3) (by omega)), if_neg (show ¬ p1 = (4 : Int32) from hk (k := 4) (by omega))]
      · rw [ob2_some, if_pos rfl, within_o (show p1 < 0 ∨ (4 : Int32) < p1 from hw.imp id (fun h => lt_pred (b := 0) (c := 5) (by omega) (by omega) h))]
        simp (disch := omega) only [ob_s, ob2_some, ob3_some, ob4_some, pl2_mk, pl3_mk, pl4_mk, plet_d, reduceIte, ite_some, zbo_b, zbo_0, zbo_1, ite_b2i, ite_b2i1, b2i_t, b2i_f, Nat.succ_ne_zero, Nat.one_ne_zero, if_true, if_false, Bool.false_eq_true, wr_s, ite_self, thr_12 t0, show ¬ (1 : Int32) = 0 by decide]
  · refine ⟨1, 0, 0, wr (wr J 306 0 0) 306 0 1, ?_, ?_, wJ0 hR 1, Or.inr (Or.inl ⟨rfl, wr_s⟩)⟩
    · rw [rok_o I7 h30 ho, ob2_some, if_neg (by decide)]
    · rw [noH_o t0 K5 K6 h30 ho, ob2_some, if_neg (by decide)]
theorem q_10 : eqP_10 Rel := by
  intro n I J hn hR p0
  obtain ⟨c, e, ⟨h2, h10, h30, -⟩, ⟨J0, J5, J6⟩, ⟨I0, I7⟩, hW⟩ := hR.facts hn
  have t0 : (wr J 306 0 0) 306 0 = 0 := wr_s
  have K5 : (wr J 306 0 0) 307 5 = nI e := w7.trans J5
  have K6 : (wr J 306 0 0) 307 6 = nI (min e 24) := w7.trans J6
  unfold fX7_level fX8_level
  rcases inK h30 p0 with ⟨h, k, rfl⟩ | ho
  · rw [rok_i I7 h30 k, noH_i t0 K5 K6 h30 k]
    have hr : h % 24 < 24 := Nat.mod_lt _ (by omega)
    obtain ⟨e1, e2, e3, e4, e5, e6, -⟩ := hW.2.2.2.2 h k
    have e3 : I 18 (h % 24) = J 307 (hp e h + 2) := e3
    have e4 : I 19 (h % 24) = J 307 (hp e h + 5) := e4
    by_cases hl : J 307 (hp e h + 2) = 0
    · refine ⟨4, 0, 0, wr (wr J 306 0 0) 306 0 2, ?_, ?_, wJ0 hR 2, Or.inr (Or.inr ⟨rfl, wr_s⟩)⟩
      · simp +decide (disch := omega) only [ob_s, ob2_some, ob3_some, ob4_some, pl2_mk, pl3_mk, pl4_mk, plet_d, reduceIte, ite_some, zbo_b, zbo_0, zbo_1, ite_b2i, ite_b2i1, b2i_t, b2i_f, Nat.succ_ne_zero, Nat.one_ne_zero, if_true, if_false, Bool.false_eq_true, wr_s, ite_self, ald_n, e3, hl]
      · simp +decide (disch := omega) only [ob_s, ob2_some, ob3_some, ob4_some, pl2_mk, pl3_mk, pl4_mk, plet_d, reduceIte, ite_some, zbo_b, zbo_0, zbo_1, ite_b2i, ite_b2i1, b2i_t, b2i_f, Nat.succ_ne_zero, Nat.one_ne_zero, if_true, if_false, Bool.false_eq_true, wr_s, ite_self, L2, of_e K5 K6 h30 k, w7, hl]
        rw [show fX8_throwsIf 1 (nI 2) (wr J 306 0 0) = _ from thr_12 t0]
        rfl
    · refine ⟨0, J 307 (hp e h + 5), J 307 (hp e h + 5), wr J 306 0 0, ?_, ?_, Rel.J0 hR 0, Or.inl ⟨rfl, wr_s, rfl⟩⟩
      · simp +decide (disch := omega) only [ob_s, ob2_some, ob3_some, ob4_some, pl2_mk, pl3_mk, pl4_mk, plet_d, reduceIte, ite_some, zbo_b, zbo_0, zbo_1, ite_b2i, ite_b2i1, b2i_t, b2i_f, Nat.succ_ne_zero, Nat.one_ne_zero, if_true, if_false, Bool.false_eq_true, wr_s, ite_self, ald_n, e3, e4, hl]
      · simp +decide (disch := omega) only [ob_s, ob2_some, ob3_some, ob4_some, pl2_mk, pl3_mk, pl4_mk, plet_d, reduceIte, ite_some, zbo_b, zbo_0, zbo_1, ite_b2i, ite_b2i1, b2i_t, b2i_f, Nat.succ_ne_zero, Nat.one_ne_zero, if_true, if_false, Bool.false_eq_true, wr_s, ite_self, L2, L5, of_e K5 K6 h30 k, w7, hl, thr_0 t0]
  · refine ⟨1, 0, 0, wr (wr J 306 0 0) 306 0 1, ?_, ?_, wJ0 hR 1, Or.inr (Or.inl ⟨rfl, wr_s⟩)⟩
    · rw [rok_o I7 h30 ho, ob2_some, if_neg (by decide)]
    · rw [noH_o t0 K5 K6 h30 ho, ob2_some, if_neg (by decide)]
      rfl
theorem q_11 : eqP_11 Rel := by
  intro n I J hn hR p0 p1
  obtain ⟨c, e, ⟨h2, h10, h30, -⟩, ⟨J0, J5, J6⟩, ⟨I0, I7⟩, hW⟩ := hR.facts hn
  have t0 : (wr J 306 0 0) 306 0 = 0 := wr_s
  have K0 : (wr J 306 0 0) 307 0 = nI c := w7.trans J0
  have K5 : (wr J 306 0 0) 307 5 = nI e := w7.trans J5
  have K6 : (wr J 306 0 0) 307 6 = nI (min e 24) := w7.trans J6
  unfold fX7_value fX8_value
  rcases inK h30 p0 with ⟨h, k, rfl⟩ | ho
  · rw [rok_i I7 h30 k, noH_i t0 K5 K6 h30 k]
    have hr : h % 24 < 24 := Nat.mod_lt _ (by omega)
    rcases inx (c := c) (by omega) p1 with ⟨j, hj, rfl⟩ | hb
    · obtain ⟨e1, e2, e3, e4, e5, e6, e7, -⟩ := hW.2.2.2.2 h k
      have e5 : I 20 (h % 24) = J 307 (hp e h + 3) := e5
      have e7 : I 24 (h % 24 * 10 + j) = J 307 (hp e h + 8 + j) := e7 j hj
      rw [ob2_some, if_pos rfl, chkB_i I0 h10 hj, ob2_some, if_pos rfl, noB_i t0 K0 h10 hj]
      cases hl : bt (J 307 (hp e h + 3)) j
      · refine ⟨4, 0, 0, wr (wr J 306 0 0) 306 0 2, ?_, ?_, wJ0 hR 2, Or.inr (Or.inr ⟨rfl, wr_s⟩)⟩
        · simp +decide (disch := omega) only [ob_s, ob2_some, ob3_some, ob4_some, pl2_mk, pl3_mk, pl4_mk, plet_d, reduceIte, ite_some, zbo_b, zbo_0, zbo_1, ite_b2i, ite_b2i1, b2i_t, b2i_f, Nat.succ_ne_zero, Nat.one_ne_zero, if_true, if_false, Bool.false_eq_true, wr_s, ite_self, ald_n, e5, has7, hl]
        · simp +decide (disch := omega) only [ob_s, ob2_some, ob3_some, ob4_some, pl2_mk, pl3_mk, pl4_mk, plet_d, reduceIte, ite_some, zbo_b, zbo_0, zbo_1, ite_b2i, ite_b2i1, b2i_t, b2i_f, Nat.succ_ne_zero, Nat.one_ne_zero, if_true, if_false, Bool.false_eq_true, wr_s, ite_self, L3, of_e K5 K6 h30 k, w7, has8, hl]
          rw [thr_12 t0]
          rfl
      · refine ⟨0, J 307 (hp e h + 8 + j), J 307 (hp e h + 8 + j), wr J 306 0 0, ?_, ?_, Rel.J0 hR 0, Or.inl ⟨rfl, wr_s, rfl⟩⟩
        · simp +decide (disch := omega) only [ob_s, ob2_some, ob3_some, ob4_some, pl2_mk, pl3_mk, pl4_mk, plet_d, reduceIte, ite_some, zbo_b, zbo_0, zbo_1, ite_b2i, ite_b2i1, b2i_t, b2i_f, Nat.succ_ne_zero, Nat.one_ne_zero, if_true, if_false, Bool.false_eq_true, wr_s, ite_self, ald_n, e5, has7, hl, L10, nI_mul_n, nI_add, e7]
        · simp +decide (disch := omega) only [ob_s, ob2_some, ob3_some, ob4_some, pl2_mk, pl3_mk, pl4_mk, plet_d, reduceIte, ite_some, zbo_b, zbo_0, zbo_1, ite_b2i, ite_b2i1, b2i_t, b2i_f, Nat.succ_ne_zero, Nat.one_ne_zero, if_true, if_false, Bool.false_eq_true, wr_s, ite_self, L3, L8, nI_add, of_e K5 K6 h30 k, w7, has8, hl, thr_0 t0, Nat.add_assoc]
    · refine ⟨1, 0, 0, wr (wr J 306 0 0) 306 0 1, ?_, ?_, wJ0 hR 1, Or.inr (Or.inl ⟨rfl, wr_s⟩)⟩
      · rw [ob2_some, if_pos rfl, chkB_o I0 hb, ob_s, if_neg (by decide)]
      · rw [ob2_some, if_pos rfl, noB_o t0 K0 (by omega) h10 hb, ob2_some, if_neg (by decide)]
        rfl
  · refine ⟨1, 0, 0, wr (wr J 306 0 0) 306 0 1, ?_, ?_, wJ0 hR 1, Or.inr (Or.inl ⟨rfl, wr_s⟩)⟩
    · rw [rok_o I7 h30 ho, ob2_some, if_neg (by decide)]
    · rw [noH_o t0 K5 K6 h30 ho, ob2_some, if_neg (by decide)]
      rfl
theorem q_12 : eqP_12 Rel := by
  intro n I J hn hR p0 p1
  obtain ⟨c, e, ⟨h2, h10, h30, -⟩, ⟨J0, J5, J6⟩, ⟨I0, I7⟩, hW⟩ := hR.facts hn
  have t0 : (wr J 306 0 0) 306 0 = 0 := wr_s
  have K0 : (wr J 306 0 0) 307 0 = nI c := w7.trans J0
  have K5 : (wr J 306 0 0) 307 5 = nI e := w7.trans J5
  have K6 : (wr J 306 0 0) 307 6 = nI (min e 24) := w7.trans J6
  unfold fX7_why fX8_why
  rcases inK h30 p0 with ⟨h, k, rfl⟩ | ho
  · rw [rok_i I7 h30 k, noH_i t0 K5 K6 h30 k]
    have hr : h % 24 < 24 := Nat.mod_lt _ (by omega)
    rcases inx (c := c) (by omega) p1 with ⟨j, hj, rfl⟩ | hb
    · obtain ⟨e1, e2, e3, -, e5, e6, -, e8⟩ := hW.2.2.2.2 h k
      obtain ⟨-, -, -, -, -, w6⟩ := hW.1.2.2.2 h k
      have e8 := e8 j hj
      obtain ⟨w1, w2⟩ := w6 j hj
      have e1 : I 16 (h % 24) = J 307 (hp e h) := e1
      have e2 : I 17 (h % 24) = J 307 (hp e h + 1) := e2
      have e3 : I 18 (h % 24) = J 307 (hp e h + 2) := e3
      have e5 : I 20 (h % 24) = J 307 (hp e h + 3) := e5
      have e6 : I 23 (h % 24) = J 307 (hp e h + 4) := e6
      have e8 : bt (J 307 (hp e h + 3)) j = true → bt (I 21 (h % 24)) j = bt (J 307 (hp e h + 6)) j ∧ bt (I 22 (h % 24)) j = (!bt (J 307 (hp e h + 6)) j && !bt (J 307 (hp e h)) j && !bt (J 307 (hp e h + 4)) j) := e8
      rw [ob2_some, if_pos rfl, chkB_i I0 h10 hj, ob2_some, if_pos rfl, noB_i t0 K0 h10 hj]
      have k0 : fX8_of (nI h) 0 (wr J 306 0 0) = some (J 307 (hp e h)) := (of_e K5 K6 h30 k (w := 0) (by omega)).trans (by rw [w7, Nat.add_zero])
      have k1 : fX8_of (nI h) 1 (wr J 306 0 0) = some (J 307 (hp e h + 1)) := (of_e K5 K6 h30 k (w := 1) (by omega)).trans (by rw [w7])
      have k2 : fX8_of (nI h) 2 (wr J 306 0 0) = some (J 307 (hp e h + 2)) := (of_e K5 K6 h30 k (w := 2) (by omega)).trans (by rw [w7])
      have k3 : fX8_of (nI h) 3 (wr J 306 0 0) = some (J 307 (hp e h + 3)) := (of_e K5 K6 h30 k (w := 3) (by omega)).trans (by rw [w7])
      have k4 : fX8_of (nI h) 4 (wr J 306 0 0) = some (J 307 (hp e h + 4)) := (of_e K5 K6 h30 k (w := 4) (by omega)).trans (by rw [w7])
      have k6 : fX8_of (nI h) 6 (wr J 306 0 0) = some (J 307 (hp e h + 6)) := (of_e K5 K6 h30 k (w := 6) (by omega)).trans (by rw [w7])
      cases r3 : bt (J 307 (hp e h + 3)) j
      · refine ⟨0, 1, 1, wr J 306 0 0, ?_, ?_, Rel.J0 hR 0, Or.inl ⟨rfl, wr_s, rfl⟩⟩
        · simp +decide (disch := omega) only [ob_s, ob2_some, ob3_some, ob4_some, pl2_mk, pl3_mk, pl4_mk, plet_d, reduceIte, ite_some, zbo_b, zbo_0, zbo_1, ite_b2i, ite_b2i1, b2i_t, b2i_f, Nat.succ_ne_zero, Nat.one_ne_zero, if_true, if_false, Bool.false_eq_true, wr_s, ite_self, ald_n, has7, e1, e2, e3, e5, e6, r3]
        · simp +decide (disch := omega) only [ob_s, ob2_some, ob3_some, ob4_some, pl2_mk, pl3_mk, pl4_mk, plet_d, reduceIte, ite_some, zbo_b, zbo_0, zbo_1, ite_b2i, ite_b2i1, b2i_t, b2i_f, Nat.succ_ne_zero, Nat.one_ne_zero, if_true, if_false, Bool.false_eq_true, wr_s, ite_self, has8, k0, k1, k2, k3, k4, k6, r3]
      · obtain ⟨a1, a2⟩ := e8 r3
        cases r0 : bt (J 307 (hp e h)) j
        · cases r4 : bt (J 307 (hp e h + 4)) j
          · cases r6 : bt (J 307 (hp e h + 6)) j
            · rw [r6] at a1
              rw [r6, r0, r4] at a2
              refine ⟨0, 3, 3, wr J 306 0 0, ?_, ?_, Rel.J0 hR 0, Or.inl ⟨rfl, wr_s, rfl⟩⟩
              · simp +decide (disch := omega) only [ob_s, ob2_some, ob3_some, ob4_some, pl2_mk, pl3_mk, pl4_mk, plet_d, reduceIte, ite_some, zbo_b, zbo_0, zbo_1, ite_b2i, ite_b2i1, b2i_t, b2i_f, Nat.succ_ne_zero, Nat.one_ne_zero, if_true, if_false, Bool.false_eq_true, wr_s, ite_self, ald_n, has7, e1, e2, e3, e5, e6, r3, r0, r4, r6, a1, a2, Bool.not_false, Bool.and_self]
              · simp +decide (disch := omega) only [ob_s, ob2_some, ob3_some, ob4_some, pl2_mk, pl3_mk, pl4_mk, plet_d, reduceIte, ite_some, zbo_b, zbo_0, zbo_1, ite_b2i, ite_b2i1, b2i_t, b2i_f, Nat.succ_ne_zero, Nat.one_ne_zero, if_true, if_false, Bool.false_eq_true, wr_s, ite_self, has8, k0, k1, k2, k3, k4, k6, r3, r0, r4, r6, a1, a2, Bool.not_false, Bool.and_self]
            · rw [r6] at a1
              refine ⟨0, 2, 2, wr J 306 0 0, ?_, ?_, Rel.J0 hR 0, Or.inl ⟨rfl, wr_s, rfl⟩⟩
              · simp +decide (disch := omega) only [ob_s, ob2_some, ob3_some, ob4_some, pl2_mk, pl3_mk, pl4_mk, plet_d, reduceIte, ite_some, zbo_b, zbo_0, zbo_1, ite_b2i, ite_b2i1, b2i_t, b2i_f, Nat.succ_ne_zero, Nat.one_ne_zero, if_true, if_false, Bool.false_eq_true, wr_s, ite_self, ald_n, has7, e1, e2, e3, e5, e6, r3, r0, r4, r6, a1]
              · simp +decide (disch := omega) only [ob_s, ob2_some, ob3_some, ob4_some, pl2_mk, pl3_mk, pl4_mk, plet_d, reduceIte, ite_some, zbo_b, zbo_0, zbo_1, ite_b2i, ite_b2i1, b2i_t, b2i_f, Nat.succ_ne_zero, Nat.one_ne_zero, if_true, if_false, Bool.false_eq_true, wr_s, ite_self, has8, k0, k1, k2, k3, k4, k6, r3, r0, r4, r6, a1]
          · rw [(w2 r4).2] at a1
            rw [(w2 r4).2, r0, r4] at a2
            refine ⟨0, 5, 5, wr J 306 0 0, ?_, ?_, Rel.J0 hR 0, Or.inl ⟨rfl, wr_s, rfl⟩⟩
            · simp +decide (disch := omega) only [ob_s, ob2_some, ob3_some, ob4_some, pl2_mk, pl3_mk, pl4_mk, plet_d, reduceIte, ite_some, zbo_b, zbo_0, zbo_1, ite_b2i, ite_b2i1, b2i_t, b2i_f, Nat.succ_ne_zero, Nat.one_ne_zero, if_true, if_false, Bool.false_eq_true, wr_s, ite_self, ald_n, has7, e1, e2, e3, e5, e6, r3, r0, r4, a1, a2, Bool.not_false, Bool.not_true, Bool.and_self, Bool.and_false]
            · simp +decide (disch := omega) only [ob_s, ob2_some, ob3_some, ob4_some, pl2_mk, pl3_mk, pl4_mk, plet_d, reduceIte, ite_some, zbo_b, zbo_0, zbo_1, ite_b2i, ite_b2i1, b2i_t, b2i_f, Nat.succ_ne_zero, Nat.one_ne_zero, if_true, if_false, Bool.false_eq_true, wr_s, ite_self, has8, k0, k1, k2, k3, k4, k6, r3, r0, r4, a1, a2, Bool.not_false, Bool.not_true, Bool.and_self, Bool.and_false]
        · obtain ⟨-, b6, b4⟩ := w1 r0
          rw [b6] at a1
          rw [b6, r0, b4] at a2
          by_cases hl : J 307 (hp e h + 2) = 0
          · refine ⟨0, 6, 6, wr J 306 0 0, ?_, ?_, Rel.J0 hR 0, Or.inl ⟨rfl, wr_s, rfl⟩⟩
            · simp +decide (disch := omega) only [ob_s, ob2_some, ob3_some, ob4_some, pl2_mk, pl3_mk, pl4_mk, plet_d, reduceIte, ite_some, zbo_b, zbo_0, zbo_1, ite_b2i, ite_b2i1, b2i_t, b2i_f, Nat.succ_ne_zero, Nat.one_ne_zero, if_true, if_false, Bool.false_eq_true, wr_s, ite_self, ald_n, has7, e1, e2, e3, e5, e6, r3, r0, b4, b6, a1, a2, hl, Bool.not_false, Bool.not_true, Bool.and_self, Bool.and_false, Bool.false_and]
            · simp +decide (disch := omega) only [ob_s, ob2_some, ob3_some, ob4_some, pl2_mk, pl3_mk, pl4_mk, plet_d, reduceIte, ite_some, zbo_b, zbo_0, zbo_1, ite_b2i, ite_b2i1, b2i_t, b2i_f, Nat.succ_ne_zero, Nat.one_ne_zero, if_true, if_false, Bool.false_eq_true, wr_s, ite_self, has8, k0, k1, k2, k3, k4, k6, r3, r0, b4, b6, a1, a2, hl, Bool.not_false, Bool.not_true, Bool.and_self, Bool.and_false, Bool.false_and]
          · cases r1 : bt (J 307 (hp e h + 1)) j
            · refine ⟨0, 4, 4, wr J 306 0 0, ?_, ?_, Rel.J0 hR 0, Or.inl ⟨rfl, wr_s, rfl⟩⟩
              · simp +decide (disch := omega) only [ob_s, ob2_some, ob3_some, ob4_some, pl2_mk, pl3_mk, pl4_mk, plet_d, reduceIte, ite_some, zbo_b, zbo_0, zbo_1, ite_b2i, ite_b2i1, b2i_t, b2i_f, Nat.succ_ne_zero, Nat.one_ne_zero, if_true, if_false, Bool.false_eq_true, wr_s, ite_self, ald_n, has7, e1, e2, e3, e5, e6, r3, r0, b4, b6, a1, a2, hl, Bool.not_false, Bool.not_true, Bool.and_self, Bool.and_false, Bool.false_and, r1]
              · simp +decide (disch := omega) only [ob_s, ob2_some, ob3_some, ob4_some, pl2_mk, pl3_mk, pl4_mk, plet_d, reduceIte, ite_some, zbo_b, zbo_0, zbo_1, ite_b2i, ite_b2i1, b2i_t, b2i_f, Nat.succ_ne_zero, Nat.one_ne_zero, if_true, if_false, Bool.false_eq_true, wr_s, ite_self, has8, k0, k1, k2, k3, k4, k6, r3, r0, b4, b6, a1, a2, hl, Bool.not_false, Bool.not_true, Bool.and_self, Bool.and_false, Bool.false_and, r1]
            · refine ⟨0, 0, 0, wr J 306 0 0, ?_, ?_, Rel.J0 hR 0, Or.inl ⟨rfl, wr_s, rfl⟩⟩
              · simp +decide (disch := omega) only [ob_s, ob2_some, ob3_some, ob4_some, pl2_mk, pl3_mk, pl4_mk, plet_d, reduceIte, ite_some, zbo_b, zbo_0, zbo_1, ite_b2i, ite_b2i1, b2i_t, b2i_f, Nat.succ_ne_zero, Nat.one_ne_zero, if_true, if_false, Bool.false_eq_true, wr_s, ite_self, ald_n, has7, e1, e2, e3, e5, e6, r3, r0, b4, b6, a1, a2, hl, Bool.not_false, Bool.not_true, Bool.and_self, Bool.and_false, Bool.false_and, r1]
              · simp +decide (disch := omega) only [ob_s, ob2_some, ob3_some, ob4_some, pl2_mk, pl3_mk, pl4_mk, plet_d, reduceIte, ite_some, zbo_b, zbo_0, zbo_1, ite_b2i, ite_b2i1, b2i_t, b2i_f, Nat.succ_ne_zero, Nat.one_ne_zero, if_true, if_false, Bool.false_eq_true, wr_s, ite_self, has8, k0, k1, k2, k3, k4, k6, r3, r0, b4, b6, a1, a2, hl, Bool.not_false, Bool.not_true, Bool.and_self, Bool.and_false, Bool.false_and, r1]
    · refine ⟨1, 0, 0, wr (wr J 306 0 0) 306 0 1, ?_, ?_, wJ0 hR 1, Or.inr ⟨rfl, wr_s⟩⟩
      · rw [ob2_some, if_pos rfl, chkB_o I0 hb, ob_s, if_neg (by decide)]
      · rw [ob2_some, if_pos rfl, noB_o t0 K0 (by omega) h10 hb, ob2_some, if_neg (by decide)]
  · refine ⟨1, 0, 0, wr (wr J 306 0 0) 306 0 1, ?_, ?_, wJ0 hR 1, Or.inr ⟨rfl, wr_s⟩⟩
    · rw [rok_o I7 h30 ho, ob2_some, if_neg (by decide)]
    · rw [noH_o t0 K5 K6 h30 ho, ob2_some, if_neg (by decide)]
