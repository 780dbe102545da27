/-! CALLS THAT ONLY LOOK -/
theorem w7 {J : Mem} {a j : Nat} {v : Int32} : wr J 306 a v 307 j = J 307 j := wr_k (by decide)
theorem w13 {J : Mem} {a j : Nat} {v : Int32} : wr J 306 a v 313 j = J 313 j := wr_k (by decide)
theorem nI_eq1 {n : Nat} (h : n < 2 ^ 31) : (nI n = 1) = (n = 1) := nI_eqP (b := 1) h (by omega)
theorem Rel.facts {n : Nat} {I J : Mem} (h : Rel n I J) (hn : n ≤ 3072) : ∃ c e, (2 ≤ c ∧ c ≤ 10 ∧ e < 2 ^ 30 ∧ e ≤ 7 * n) ∧ (J 307 0 = nI c ∧ J 307 5 = nI e ∧ J 307 6 = nI (min e 24)) ∧ (I 2 0 = nI c ∧ I 1 7 = nI e) ∧ EW c e I 1 (J 307) := by
  obtain ⟨c, e, he, hw⟩ := h.1
  have hw' := hw
  obtain ⟨⟨⟨h2, h10, F0, F5, F6, -⟩, -, -, -⟩, ⟨q0, -, -, -, -, q7, -⟩, -⟩ := hw'
  exact ⟨c, e, ⟨h2, h10, by omega, he⟩, ⟨F0, F5, F6⟩, ⟨q0, q7.trans F5⟩, hw⟩
theorem wJ0 {n : Nat} {I J : Mem} (h : Rel n I J) (v : Int32) : Rel (n + 6) I (wr (wr J 306 0 0) 306 0 v) := RelB.cong (Nat.le_refl _) (fun _ _ _ => rfl) (fun k j hq => by
    have : ¬ (k = 306 ∧ j = 0) := fun hh => hq (by unfold qJ; omega)
    simp only [wr, if_neg this]) (Rel.J0 h 0)
theorem q_3 : eqP_3 Rel := by
  intro n I J hn hR _
  refine ⟨I 0 12, wr J 306 0 0, rfl, ?_, Rel.J0 hR 0⟩
  unfold fX8_errorCode
  rw [wr_j (by decide), hR.2.2.2.2.2.1.1]
theorem q_4 : eqP_4 Rel := by
  intro n I J hn hR _
  refine ⟨I 0 13, wr J 306 0 0, rfl, ?_, Rel.J0 hR 0⟩
  unfold fX8_errorPosition
  rw [wr_j (by decide), hR.2.2.2.2.2.1.2]
theorem has_bsl {p : Nat → Bool} {c j : Nat} (hj : j < c) (hc : c ≤ 32) : bt (bsl p 0 c 0) j = p j := by
  rw [b_bsl (by omega) c 0 0 (by omega), b_0]
  simp [hj]
theorem hasB_e {F : Row} {j : Nat} (h : F (92 + j) = 0 ∨ F (92 + j) = 1) : b2i (hasB F j) = F (92 + j) := by
  unfold hasB b2i
  rcases h with h | h <;> rw [h] <;> rfl
theorem broB_e {F : Row} {j : Nat} (h : F (132 + j) = 0 ∨ F (132 + j) = 1) : b2i (broB F j) = F (132 + j) := by
  unfold broB b2i
  rcases h with h | h <;> rw [h] <;> rfl
theorem ite_01 {p : Bool} : (if p = true then (1 : Int32) else 0) = b2i p := rfl
theorem wouts {x : Int32} {c : Nat} (hc : c < 2 ^ 31) (hx : x < 0 ∨ nI c ≤ x) {k : Nat} (hk : k < c) : ¬ x = nI k := by
  intro h
  subst h
  rcases hx with h | h
  · exact nI_pos (by omega) h
  · rw [nI_leP (by omega) (by omega)] at h
    omega
theorem q_6 : eqP_6 Rel := by
  intro n I J hn hR p0 p1
  obtain ⟨c, e, ⟨h2, h10, h30, -⟩, ⟨J0, J5, J6⟩, ⟨I0, I7⟩, hW⟩ := hR.facts hn
  have t0 : (wr J 306 0 0) 306 0 = 0 := wr_s
  have K0 : (wr J 306 0 0) 307 0 = nI c := w7.trans J0
  unfold fX7_buoy fX8_buoy
  rcases inx (c := c) (by omega) p0 with ⟨j, hj, rfl⟩ | ho
  · rw [chkB_i I0 h10 hj, noB_i t0 K0 h10 hj]
    rcases inx (c := 10) (by omega) p1 with ⟨w, hw, rfl⟩ | hw
    · obtain ⟨e1, e2, e3, e4, e5, e6, e7, e8, e9⟩ := hW.2.2.1 j hj
      have e10 := hW.2.1.2.2.2.2.2.2.2.2.2.2.2
      have w9 := (hW.1.2.1 j hj).2.2.2.2.1
      refine ⟨0, J 307 (12 + 10 * w + j), J 307 (12 + 10 * w + j), wr J 306 0 0, ?_, ?_, Rel.J0 hR 0, Or.inl ⟨rfl, wr_s, rfl⟩⟩
      · have hw' : w = 0 ∨ w = 1 ∨ w = 2 ∨ w = 3 ∨ w = 4 ∨ w = 5 ∨ w = 6 ∨ w = 7 ∨ w = 8 ∨ w = 9 := by omega
        rcases hw' with rfl | rfl | rfl | rfl | rfl | rfl | rfl | rfl | rfl | rfl
        all_goals simp +decide (disch := omega) only [ob_s, ob2_some, ob3_some, ob4_some, pl2_mk, pl3_mk, pl4_mk, plet_d, reduceIte, ite_some, zbo_b, zbo_0, zbo_1, ite_b2i, ite_b2i1, b2i_t, b2i_f, Nat.succ_ne_zero, Nat.one_ne_zero, if_true, if_false, Bool.false_eq_true, wr_s, ite_self, L2, L3, L4, L5, L6, L7, L8, L9, nI_eqP, nI_eq0, nI_eq1, ald_n, has7]
        · rw [show I 3 j = _ from e1]
        · rw [show I 4 j = _ from e2]
        · rw [show I 5 j = _ from e3]
        · rw [show I 6 j = _ from e4]
        · rw [show I 7 j = _ from e5]
        · rw [show I 8 j = _ from e6]
        · rw [show I 9 j = _ from e7]
        · rw [show I 10 j = _ from e8]
        · rw [show I 2 1 = _ from e10, has_bsl hj (by omega)]
          have := hasB_e w9
          cases hh : hasB (J 307) j <;> rw [hh] at this <;> exact congrArg some (Prod.ext rfl this)
        · rw [show I 11 j = _ from e9]
      · rw [ob2_some, if_pos rfl, within_i (nI_pos (by omega)) (by rw [L9, nI_ltP (by omega) (by omega)]; omega)]
        simp (disch := omega) only [ob_s, ob2_some, ob3_some, ob4_some, pl2_mk, pl3_mk, pl4_mk, plet_d, reduceIte, ite_some, zbo_b, zbo_0, zbo_1, ite_b2i, ite_b2i1, b2i_t, b2i_f, Nat.succ_ne_zero, Nat.one_ne_zero, if_true, if_false, Bool.false_eq_true, wr_s, ite_self, thr_0 t0, show ¬ (1 : Int32) = 0 by decide, L12, L10, nI_mul_n, nI_add, ald_n, w7]
    · refine ⟨2, 0, 0, wr (wr J 306 0 0) 306 0 2, ?_, ?_, wJ0 hR 2, Or.inr (Or.inr ⟨rfl, wr_s⟩)⟩
      · have hk := @wouts p1 10 (by omega) hw
        rw [ob_s, if_pos rfl, if_neg (show ¬ p1 = (0 : Int32) from hk (k := 0) (by omega)), if_neg (show ¬ p1 = (1 : Int32) from hk (k := 1) (by omega)), if_neg (show ¬ p1 = (2 : Int32) from hk (k := 2) (by omega)), if_neg (show ¬ p1 = (3 : Int32) from hk (k := 3) (by omega)), if_neg (show ¬ p1 = (4 : Int32) from hk (k := 4) (by omega)), if_neg (show ¬ p1 = (5 : Int32) from hk (k := 5) (by omega)), if_neg (show ¬ p1 = (6 : Int32) from hk (k := 6) (by omega)), if_neg (show ¬ p1 = (7 : Int32) from hk (k := 7) (by omega)), if_neg (show ¬ p1 = (8 : Int32) from hk (k := 8) (by omega)), if_neg (show ¬ p1 = (9 : Int32) from hk (k := 9) (by omega))]
      · rw [ob2_some, if_pos rfl, within_o (show p1 < 0 ∨ (9 : Int32) < p1 from hw.imp id (fun h => lt_pred (b := 0) (c := 10) (by omega) (by omega) h))]
        simp (disch := omega) only [ob_s, ob2_some, ob3_some, ob4_some, pl2_mk, pl3_mk, pl4_mk, plet_d, reduceIte, ite_some, zbo_b, zbo_0, zbo_1, ite_b2i, ite_b2i1, b2i_t, b2i_f, Nat.succ_ne_zero, Nat.one_ne_zero, if_true, if_false, Bool.false_eq_true, wr_s, ite_self, thr_12 t0, show ¬ (1 : Int32) = 0 by decide]
  · refine ⟨1, 0, 0, wr (wr J 306 0 0) 306 0 1, ?_, ?_, wJ0 hR 1, Or.inr (Or.inl ⟨rfl, wr_s⟩)⟩
    · rw [chkB_o I0 ho, ob_s, if_neg (by decide)]
    · rw [noB_o t0 K0 (by omega) h10 ho, ob2_some, if_neg (by decide)]
theorem dist_e {I : Mem} {b c j : Nat} (hc : I (b + 1) 0 = nI c) (h10 : c ≤ 10) (hj : j + 1 < c) : fX0_distanceBehind b (nI j) I = some (I (b + 2) (j + 1) - I (b + 2) j) := by
  unfold fX0_distanceBehind
  rw [if_neg (nI_pos (by omega)), hc, nI_1, if_neg (by rw [nI_leP (by omega) (by omega)]; omega), ald_n (by omega) (by omega), ald_n (by omega) (by omega)]
  rfl
theorem long_e {J : Mem} {j : Nat} (hj : j < 10) : fX8_long0 (nI j) J = some (J 307 (12 + j + 1) - J 307 (12 + j)) := by
  unfold fX8_long0
  rw [L12, nI_add, nI_1, ald_n (by omega) (by omega), ald_n (by omega) (by omega)]
  rfl
theorem q_7 : eqP_7 Rel := by
  intro n I J hn hR p0 p1
  obtain ⟨c, e, ⟨h2, h10, h30, -⟩, ⟨J0, J5, J6⟩, ⟨I0, I7⟩, hW⟩ := hR.facts hn
  have t0 : (wr J 306 0 0) 306 0 = 0 := wr_s
  have K0 : (wr J 306 0 0) 307 0 = nI c := w7.trans J0
  unfold fX7_rope fX8_rope
  rcases inx (c := c - 1) (by omega) p0 with ⟨j, hj, rfl⟩ | ho
  · rw [chkR_i I0 h10 (by omega), noR_i t0 K0 h10 (by omega)]
    rcases inx (c := 4) (by omega) p1 with ⟨w, hw, rfl⟩ | hw
    · obtain ⟨e1, -⟩ := hW.2.2.1 j (by omega)
      obtain ⟨f1, -⟩ := hW.2.2.1 (j + 1) (by omega)
      obtain ⟨r1, r2⟩ := hW.2.2.2.1 j (by omega)
      have e10 := hW.2.1.2.2.2.2.2.2.2.2.2.2.1
      have w9 := hW.1.2.2.1 j (by omega)
      have hb := broB_e w9
      have hw' : w = 0 ∨ w = 1 ∨ w = 2 ∨ w = 3 := by omega
      rcases hw' with rfl | rfl | rfl | rfl
      · refine ⟨0, J 307 (12 + j + 1) - J 307 (12 + j), J 307 (12 + j + 1) - J 307 (12 + j), wr J 306 0 0, ?_, ?_, Rel.J0 hR 0, Or.inl ⟨rfl, wr_s, rfl⟩⟩
        · simp +decide (disch := omega) only [ob_s, ob2_some, ob3_some, ob4_some, pl2_mk, pl3_mk, pl4_mk, plet_d, reduceIte, ite_some, zbo_b, zbo_0, zbo_1, ite_b2i, ite_b2i1, b2i_t, b2i_f, Nat.succ_ne_zero, Nat.one_ne_zero, if_true, if_false, Bool.false_eq_true, wr_s, ite_self, nI_eq0, dist_e (b := 1) I0 h10 (show j + 1 < c by omega)]
          rw [show I (1 + 2) j = _ from e1, show I (1 + 2) (j + 1) = _ from f1]
          rfl
        · rw [ob2_some, if_pos rfl, within_i (nI_pos (by omega)) (by rw [L3, nI_ltP (by omega) (by omega)]; omega)]
          simp +decide (disch := omega) only [ob_s, ob2_some, ob3_some, ob4_some, pl2_mk, pl3_mk, pl4_mk, plet_d, reduceIte, ite_some, zbo_b, zbo_0, zbo_1, ite_b2i, ite_b2i1, b2i_t, b2i_f, Nat.succ_ne_zero, Nat.one_ne_zero, if_true, if_false, Bool.false_eq_true, wr_s, ite_self, thr_0 t0, show ¬ (1 : Int32) = 0 by decide, nI_eq0, long_e (J := wr J 306 0 0) (show j < 10 by omega), w7]
      · refine ⟨0, J 307 (112 + j), J 307 (112 + j), wr J 306 0 0, ?_, ?_, Rel.J0 hR 0, Or.inl ⟨rfl, wr_s, rfl⟩⟩
        · simp +decide (disch := omega) only [ob_s, ob2_some, ob3_some, ob4_some, pl2_mk, pl3_mk, pl4_mk, plet_d, reduceIte, ite_some, zbo_b, zbo_0, zbo_1, ite_b2i, ite_b2i1, b2i_t, b2i_f, Nat.succ_ne_zero, Nat.one_ne_zero, if_true, if_false, Bool.false_eq_true, wr_s, ite_self, L2, L3, nI_eqP, nI_eq0, nI_eq1, ald_n]
          rw [show I 13 j = _ from r1]
        · rw [ob2_some, if_pos rfl, within_i (nI_pos (by omega)) (by rw [L3, nI_ltP (by omega) (by omega)]; omega)]
          simp +decide (disch := omega) only [ob_s, ob2_some, ob3_some, ob4_some, pl2_mk, pl3_mk, pl4_mk, plet_d, reduceIte, ite_some, zbo_b, zbo_0, zbo_1, ite_b2i, ite_b2i1, b2i_t, b2i_f, Nat.succ_ne_zero, Nat.one_ne_zero, if_true, if_false, Bool.false_eq_true, wr_s, ite_self, thr_0 t0, show ¬ (1 : Int32) = 0 by decide, nI_eq0, nI_sub1, L10, L112, nI_mul_n, nI_add, ald_n, w7]
      · refine ⟨0, J 307 (122 + j), J 307 (122 + j), wr J 306 0 0, ?_, ?_, Rel.J0 hR 0, Or.inl ⟨rfl, wr_s, rfl⟩⟩
        · simp +decide (disch := omega) only [ob_s, ob2_some, ob3_some, ob4_some, pl2_mk, pl3_mk, pl4_mk, plet_d, reduceIte, ite_some, zbo_b, zbo_0, zbo_1, ite_b2i, ite_b2i1, b2i_t, b2i_f, Nat.succ_ne_zero, Nat.one_ne_zero, if_true, if_false, Bool.false_eq_true, wr_s, ite_self, L2, L3, nI_eqP, nI_eq0, nI_eq1, ald_n]
          rw [show I 14 j = _ from r2]
        · rw [ob2_some, if_pos rfl, within_i (nI_pos (by omega)) (by rw [L3, nI_ltP (by omega) (by omega)]; omega)]
          simp +decide (disch := omega) only [ob_s, ob2_some, ob3_some, ob4_some, pl2_mk, pl3_mk, pl4_mk, plet_d, reduceIte, ite_some, zbo_b, zbo_0, zbo_1, ite_b2i, ite_b2i1, b2i_t, b2i_f, Nat.succ_ne_zero, Nat.one_ne_zero, if_true, if_false, Bool.false_eq_true, wr_s, ite_self, thr_0 t0, show ¬ (1 : Int32) = 0 by decide, nI_eq0, nI_sub1, L10, L112, nI_mul_n, nI_add, ald_n, w7]
      · refine ⟨0, J 307 (132 + j), J 307 (132 + j), wr J 306 0 0, ?_, ?_, Rel.J0 hR 0, Or.inl ⟨rfl, wr_s, rfl⟩⟩
        · simp +decide (disch := omega) only [ob_s, ob2_some, ob3_some, ob4_some, pl2_mk, pl3_mk, pl4_mk, plet_d, reduceIte, ite_some, zbo_b, zbo_0, zbo_1, ite_b2i, ite_b2i1, b2i_t, b2i_f, Nat.succ_ne_zero, Nat.one_ne_zero, if_true, if_false, Bool.false_eq_true, wr_s, ite_self, L2, L3, nI_eqP, nI_eq0, nI_eq1, ald_n, has7]
          rw [show I 12 0 = _ from e10, has_bsl (show j < c - 1 by omega) (by omega)]
          cases hh : broB (J 307) j <;> rw [hh] at hb <;> exact congrArg some (Prod.ext rfl hb)
        · rw [ob2_some, if_pos rfl, within_i (nI_pos (by omega)) (by rw [L3, nI_ltP (by omega) (by omega)]; omega)]
          simp +decide (disch := omega) only [ob_s, ob2_some, ob3_some, ob4_some, pl2_mk, pl3_mk, pl4_mk, plet_d, reduceIte, ite_some, zbo_b, zbo_0, zbo_1, ite_b2i, ite_b2i1, b2i_t, b2i_f, Nat.succ_ne_zero, Nat.one_ne_zero, if_true, if_false, Bool.false_eq_true, wr_s, ite_self, thr_0 t0, show ¬ (1 : Int32) = 0 by decide, nI_eq0, nI_sub1, L10, L112, nI_mul_n, nI_add, ald_n, w7]
    · refine ⟨2, 0, 0, wr (wr J 306 0 0) 306 0 2, ?_, ?_, wJ0 hR 2, Or.inr (Or.inr ⟨rfl, wr_s⟩)⟩
      · have hk := @wouts p1 4 (by omega) hw
        rw [ob_s, if_pos rfl, if_neg (show ¬ p1 = (0 : Int32) from hk (k := 0) (by omega)), if_neg (show ¬ p1 = (1 : Int32) from hk (k := 1) (by omega)), if_neg (show ¬ p1 = (2 : Int32) from hk (k := 2) (by omega)), if_neg (show ¬ p1 = (3 : Int32) from hk (k := 3) (by omega))]
      · rw [ob2_some, if_pos rfl, within_o (show p1 < 0 ∨ (3 : Int32) < p1 from hw.imp id (fun h => lt_pred (b := 0) (c := 4) (by omega) (by omega) h))]
        simp (disch := omega) only [ob_s, ob2_some, ob3_some, ob4_some, pl2_mk, pl3_mk, pl4_mk, plet_d, reduceIte, ite_some, zbo_b, zbo_0, zbo_1, ite_b2i, ite_b2i1, b2i_t, b2i_f, Nat.succ_ne_zero, Nat.one_ne_zero, if_true, if_false, Bool.false_eq_true, wr_s, ite_self, thr_12 t0, show ¬ (1 : Int32) = 0 by decide]
  · refine ⟨1, 0, 0, wr (wr J 306 0 0) 306 0 1, ?_, ?_, wJ0 hR 1, Or.inr (Or.inl ⟨rfl, wr_s⟩)⟩
    · rw [chkR_o I0 (by omega) h10 ho, ob_s, if_neg (by decide)]
    · rw [noR_o t0 K0 (by omega) h10 ho, ob2_some, if_neg (by decide)]
theorem q_8 : eqP_8 Rel := by
  intro n I J hn hR p0
  have t0 : (wr J 306 0 0) 306 0 = 0 := wr_s
  unfold fX7_account fX8_account
  rcases inx (c := 5) (by omega) p0 with ⟨j, hj, rfl⟩ | ho
  · refine ⟨0, J 313 j, J 313 j, wr J 306 0 0, ?_, ?_, Rel.J0 hR 0, Or.inl ⟨rfl, wr_s, rfl⟩⟩
    · rw [ofN, if_neg (nI_pos (by omega)), if_pos (show nI j < nI 5 by rw [nI_ltP (by omega) (by omega)]; omega), ald_n (by omega) (by omega), hR.2.2.2.1 j hj]
      rfl
    · rw [within_i (nI_pos (by omega)) (by rw [L4, nI_ltP (by omega) (by omega)]; omega)]
      simp (disch := omega) only [ob_s, ob2_some, ob3_some, ob4_some, pl2_mk, pl3_mk, pl4_mk, plet_d, reduceIte, ite_some, zbo_b, zbo_0, zbo_1, ite_b2i, ite_b2i1, b2i_t, b2i_f, Nat.succ_ne_zero, Nat.one_ne_zero, if_true, if_false, Bool.false_eq_true, wr_s, ite_self, thr_0 t0, show ¬ (1 : Int32) = 0 by decide, ald_n, w13]
  · refine ⟨2, 0, 0, wr (wr J 306 0 0) 306 0 1, ?_, ?_, wJ0 hR 1, Or.inr ⟨rfl, wr_s⟩⟩
    · by_cases h : p0 < 0
      · rw [if_pos h]
      · rw [if_neg h, ofN, if_neg (nlt_of_le (ho.resolve_left h))]
    · rw [within_o (show p0 < 0 ∨ (4 : Int32) < p0 from ho.imp id (fun h => lt_pred (b := 0) (c := 5) (by omega) (by omega) h))]
      simp (disch := omega) only [ob_s, ob2_some, ob3_some, ob4_some, pl2_mk, pl3_mk, pl4_mk, plet_d, reduceIte, ite_some, zbo_b, zbo_0, zbo_1, ite_b2i, ite_b2i1, b2i_t, b2i_f, Nat.succ_ne_zero, Nat.one_ne_zero, if_true, if_false, Bool.false_eq_true, wr_s, ite_self, thr_11 t0, show ¬ (1 : Int32) = 0 by decide]
