/-! REPORT, HAUL, ADDSTOCK AS CALLS; UNDO, SAVE, RESTORE -/
theorem q_29 : eqP_29 Rel := by
  intro n I J hn hR p0 p1
  obtain ⟨c, e, ⟨h2, h10, h30, he⟩, ⟨J0, J5, J6⟩, ⟨I0, I7⟩, hW⟩ := hR.facts hn
  have t0 : (wr J 306 0 0) 306 0 = 0 := wr_s
  have K0 : (wr J 306 0 0) 307 0 = nI c := w7.trans J0
  rcases inx (c := c) (by omega) p0 with ⟨b, hb, rfl⟩ | ho
  · by_cases hin : ¬ p1 < (-9999 : Int32) ∧ ¬ (9999 : Int32) < p1
    · have hv : bd (-9999) 9999 p1 := by
        obtain ⟨a1, a2⟩ := hin
        rw [toInt_lt'] at a1 a2
        rw [show (-9999 : Int32).toInt = -9999 from rfl] at a1
        rw [show (9999 : Int32).toInt = 9999 from rfl] at a2
        unfold bd
        omega
      obtain ⟨r, I', J', r1, r2, r3, r4, -⟩ := act_report (E := 7 * (n + 6)) (b := b) (v := p1) (Rel.J0 hR 0) (by omega) (by rw [K0, nI_ltP (by omega) (by omega)]; exact hb) (by omega) hv
      refine ⟨0, r, I', r, J', r1, ?_, r3, Or.inl ⟨rfl, r4.trans t0, rfl⟩⟩
      unfold fX8_report
      rw [noB_i t0 K0 h10 hb, ob2_some, if_pos e00, within_i hin.1 hin.2, ob_s, plet_d, if_neg n10, thr_0 t0, ob2_some, if_pos e00, r2]
      rfl
    · have hout : p1 < (-9999 : Int32) ∨ (9999 : Int32) < p1 := by
        by_cases h : p1 < (-9999 : Int32)
        · exact Or.inl h
        · by_cases h' : (9999 : Int32) < p1
          · exact Or.inr h'
          · exact absurd ⟨h, h'⟩ hin
      refine ⟨2, 0, I, 0, wr (wr J 306 0 0) 306 0 2, ?_, ?_, wJ0 hR 2, Or.inr (Or.inr ⟨rfl, wr_s⟩)⟩
      · unfold fX7_report
        rw [chkB_i I0 h10 hb, ob_s, if_pos rfl]
        by_cases h : p1 < (-9999 : Int32)
        · rw [if_pos h]
        · rw [if_neg h, if_neg (nle_of_lt (hout.resolve_left h))]
      · unfold fX8_report
        rw [noB_i t0 K0 h10 hb, ob2_some, if_pos e00, within_o hout, ob_s, plet_d, if_pos e00, thr_12 t0, ob2_some, if_neg n10]
        rfl
  · refine ⟨1, 0, I, 0, wr (wr J 306 0 0) 306 0 1, ?_, ?_, wJ0 hR 1, Or.inr (Or.inl ⟨rfl, wr_s⟩)⟩
    · unfold fX7_report
      rw [chkB_o I0 ho, ob_s, if_neg (by decide)]
    · unfold fX8_report
      rw [noB_o t0 K0 (by omega) h10 ho, ob2_some, if_neg (by decide)]
      rfl
theorem q_34 : eqP_34 Rel := by
  intro n I J hn hR p0
  obtain ⟨c, e, ⟨h2, h10, h30, he⟩, ⟨J0, J5, J6⟩, ⟨I0, I7⟩, hW⟩ := hR.facts hn
  have t0 : (wr J 306 0 0) 306 0 = 0 := wr_s
  have K0 : (wr J 306 0 0) 307 0 = nI c := w7.trans J0
  rcases inx (c := c) (by omega) p0 with ⟨b, hb, rfl⟩ | ho
  · obtain ⟨r, I', J', r1, r2, r3, r4⟩ := act_haul (E := 7 * (n + 6)) (b := b) (Rel.J0 hR 0) (by omega) (by rw [K0, nI_ltP (by omega) (by omega)]; exact hb) (by omega)
    refine ⟨0, r, I', r, J', r1, ?_, r3, Or.inl ⟨rfl, r4.trans t0, rfl⟩⟩
    unfold fX8_haul
    rw [noB_i t0 K0 h10 hb, ob2_some, if_pos e00, r2]
    rfl
  · refine ⟨1, 0, I, 0, wr (wr J 306 0 0) 306 0 1, ?_, ?_, wJ0 hR 1, Or.inr ⟨rfl, wr_s⟩⟩
    · unfold fX7_haul
      rw [chkB_o I0 ho, ob_s, if_neg (by decide)]
    · unfold fX8_haul
      rw [noB_o t0 K0 (by omega) h10 ho, ob2_some, if_neg (by decide)]
      rfl
theorem q_35 : eqP_35 Rel := by
  intro n I J hn hR p0
  have t0 : (wr J 306 0 0) 306 0 = 0 := wr_s
  rcases inb (lo := 1) (hi := 10000) (by omega) (by omega) p0 with ⟨a, h1, h2, rfl⟩ | ho
  · obtain ⟨r, I', J', r1, r2, r3, r4⟩ := act_stock (E := 7 * (n + 6)) (a := a) (Rel.J0 hR 0) (by omega) h1 h2
    refine ⟨0, r, I', r, J', r1, ?_, r3, Or.inl ⟨rfl, r4.trans t0, rfl⟩⟩
    unfold fX8_addStock
    rw [within_i (show ¬ nI a < 1 from show ¬ nI a < nI 1 by rw [nI_ltP (by omega) (by omega)]; omega) (show ¬ (9999 : Int32) < nI a from show ¬ nI 9999 < nI a by rw [nI_ltP (by omega) (by omega)]; omega), ob_s, plet_d, if_neg n10, thr_0 t0, ob2_some, if_pos e00, r2]
    rfl
  · have hout : p0 < 1 ∨ (9999 : Int32) < p0 := ho.imp id (lt_pred (b := 0) (c := 10000) (by omega) (by omega))
    refine ⟨2, 0, I, 0, wr (wr J 306 0 0) 306 0 1, ?_, ?_, wJ0 hR 1, Or.inr ⟨rfl, wr_s⟩⟩
    · unfold fX7_addStock
      by_cases h : p0 < 1
      · rw [if_pos h]
      · rw [if_neg h, if_neg (nle_of_lt (hout.resolve_left h))]
    · unfold fX8_addStock
      rw [within_o hout, ob_s, plet_d, if_pos e00, thr_11 t0, ob2_some, if_neg n10]
      rfl
theorem fm_pred : ∀ p, p < 8 → fJ9_floorMod_7cf53 (nI p - 1) 8 = some (nI ((p + 7) % 8)) := by decide +kernel
theorem zl312 : zb_ln 312 = 2 := by decide
theorem q_42 : eqP_42 Rel := by
  intro n I J hn hR _
  have t0 : (wr J 306 0 0) 306 0 = 0 := wr_s
  obtain ⟨hS, ⟨u, p, hu, hp8, I3, I4, J8, hU⟩, hV, hA, hT, hE, hO⟩ := id hR
  have K8 : (wr J 306 0 0) 306 8 = nI u := (wr_n (by omega)).trans J8
  unfold fX7_undo fX8_undo
  rw [I3, K8]
  by_cases h0 : u = 0
  · subst h0
    rw [if_pos (show nI 0 = 0 from rfl), if_pos (show nI 0 = 0 from rfl), plet_d, thr_11 t0, ob2_some, if_neg n10]
    exact ⟨3, 0, I, 0, wr (wr J 306 0 0) 306 0 1, rfl, rfl, wJ0 hR 1, Or.inr ⟨rfl, wr_s⟩⟩
  · rw [if_neg (nI_ne0 (by omega) (by omega)), if_neg (nI_ne0 (by omega) (by omega)), plet_d, thr_0 t0, ob2_some, if_pos e00, I4, fm_pred p hp8, ob_s, show wr I 0 4 (nI ((p + 7) % 8)) 0 3 = nI u from (wr_j (by decide)).trans I3, nI_sub1 (by omega) (by omega), show wr (wr I 0 4 (nI ((p + 7) % 8))) 0 3 (nI (u - 1)) 0 4 = nI ((p + 7) % 8) from (wr_j (by decide)).trans wr_s, rld_n (Nat.mod_lt _ (by omega)) (by omega), ob_s]
    obtain ⟨I1, c1, c2, c3⟩ := cp_e (I := wr (wr I 0 4 (nI ((p + 7) % 8))) 0 3 (nI (u - 1))) (b := 1) (b1 := 66 + 24 * ((p + 7) % 8)) (by omega)
    rw [c1, ob_s, K8, nI_sub1 (by omega) (by omega), wr_s, L574, nI_mul_n, show (0 : Int32) = nI 0 from rfl, cps_e (k0 := 310) (k2 := 307) (o1 := 574 * (u - 1)) (o2 := 0) zl310 zl307 (by omega) (by omega) ⟨by omega, by omega⟩ (by omega), ob_s]
    have fI : ∀ k j, ¬ (1 ≤ k ∧ k < 25) → ¬ (k = 0 ∧ (j = 3 ∨ j = 4)) → I1 k j = I k j := fun k j h1 h2 => by
      rw [c3 k j (by omega), wr_n (by omega), wr_n (by omega)]
    have bI : ∀ x k j, x < 8 → rng k j → wr (wr I 0 4 (nI ((p + 7) % 8))) 0 3 (nI (u - 1)) (66 + 24 * x + k) j = I (66 + 24 * x + k) j := fun x k j hx hr => by
      rw [wr_n (by omega), wr_n (by omega)]
    have fJ : ∀ k j, k ≠ 307 → ¬ (k = 306 ∧ (j = 0 ∨ j = 8)) → cpy (wr (wr J 306 0 (nI 0)) 306 8 (nI (u - 1))) 310 (574 * (u - 1)) 307 0 574 k j = J k j := fun k j h1 h2 => by
      rw [cpy_ne (by omega), wr_n (by omega), wr_n (by omega)]
    have i3 : I1 0 3 = nI (u - 1) := (c3 _ _ (by omega)).trans wr_s
    have j8 : cpy (wr (wr J 306 0 (nI 0)) 306 8 (nI (u - 1))) 310 (574 * (u - 1)) 307 0 574 306 8 = nI (u - 1) := (cpy_ne (by omega)).trans wr_s
    refine ⟨0, I1 0 3, I1, nI (u - 1), _, rfl, by rw [j8], ⟨?_, ⟨u - 1, (p + 7) % 8, by omega, by omega, i3, ?_, j8, fun i hi => ?_⟩, ?_, ?_, ?_, ?_, ?_⟩, Or.inl ⟨rfl, ?_, i3⟩⟩
    · obtain ⟨c, e, he, hw⟩ := hU (u - 1) (by omega)
      rw [show (p + 8 - u + (u - 1)) % 8 = (p + 7) % 8 by omega] at hw
      refine ⟨c, e, by omega, hw.cong (fun k j hr => ?_) (fun x hx => ?_)⟩
      · rw [c2 k j hr, bI _ k j (by omega) hr]
      · rw [cpy_at (by omega), wr_n (by omega), wr_n (by omega)]
        show J 310 (574 * (u - 1) + (x - 0)) = J 310 (574 * (u - 1) + x)
        rw [Nat.sub_zero]
    · rw [c3 _ _ (by omega), wr_n (by omega), wr_s]
    · obtain ⟨c, e, he, hw⟩ := hU i (by omega)
      rw [show ((p + 7) % 8 + 8 - (u - 1) + i) % 8 = (p + 8 - u + i) % 8 by omega]
      refine ⟨c, e, by omega, hw.cong (fun k j hr => fI _ _ (by omega) (by omega)) (fun x hx => fJ _ _ (by omega) (by omega))⟩
    · exact RelV.cong (by omega) (fun k j h1 h2 => fI _ _ (by omega) (by omega)) (fI _ _ (by omega) (by omega)) (fun j => fJ _ _ (by omega) (by omega)) (fun j => fJ _ _ (by omega) (by omega)) hV
    · exact RelA.cong (fun j => fI _ _ (by omega) (by omega)) (fun j => fJ _ _ (by omega) (by omega)) hA
    · exact RelT.cong (fun j => fI _ _ (by omega) (by omega)) (fI _ _ (by omega) (by omega)) (fun j => fJ _ _ (by omega) (by omega)) (fJ _ _ (by omega) (by omega)) hT
    · exact RelE.cong (fI _ _ (by omega) (by omega)) (fI _ _ (by omega) (by omega)) (fJ _ _ (by omega) (by omega)) (fJ _ _ (by omega) (by omega)) hE
    · exact RelO.cong (fun j => fI _ _ (by omega) (by omega)) (fI _ _ (by omega) (by omega)) (fun j => fJ _ _ (by omega) (by omega)) (fJ _ _ (by omega) (by omega)) hO
    · rw [cpy_ne (by omega), wr_n (by omega), wr_s]
theorem slot_c {p0 : Int32} {J : Mem} : (∃ i, i < 2 ∧ p0 = nI i ∧ fX7_checkSlot p0 = some 0 ∧ fX8_noSlot p0 J = some (0, wr J 306 0 0)) ∨ (fX7_checkSlot p0 = some 1 ∧ fX8_noSlot p0 J = some (1, wr (wr J 306 0 0) 306 0 1)) := by
  have t0 : (wr J 306 0 0) 306 0 = 0 := wr_s
  unfold fX7_checkSlot fX8_noSlot
  rcases inx (c := 2) (by omega) p0 with ⟨i, hi, rfl⟩ | ho
  · refine Or.inl ⟨i, hi, rfl, ?_, ?_⟩
    · rw [if_neg (nI_pos (by omega)), if_pos (show nI i < 2 from show nI i < nI 2 by rw [nI_ltP (by omega) (by omega)]; omega)]
    · rw [within_i (nI_pos (by omega)) (show ¬ (1 : Int32) < nI i from show ¬ nI 1 < nI i by rw [nI_ltP (by omega) (by omega)]; omega), ob_s, plet_d, if_neg n10, thr_0 t0, ob2_some]
      rfl
  · refine Or.inr ⟨?_, ?_⟩
    · by_cases h : p0 < 0
      · rw [if_pos h]
      · rw [if_neg h, if_neg (show ¬ p0 < 2 from nlt_of_le (ho.resolve_left h))]
    · rw [within_o (show p0 < 0 ∨ (1 : Int32) < p0 from ho.imp id (lt_pred (b := 0) (c := 2) (by omega) (by omega))), ob_s, plet_d, if_pos e00, thr_11 t0, ob2_some]
      rfl
theorem bit_set {x : Int32} {i j : Nat} (hi : i < 32) (hj : j < 32) : bt (x ||| bit1 j) i = (bt x i || decide (i = j)) := by
  rw [b_or, b_bit1 hj hi]
theorem q_43 : eqP_43 Rel := by
  intro n I J hn hR p0
  obtain ⟨c, e, ⟨h2, h10, h30, he⟩, ⟨J0, J5, J6⟩, ⟨I0, I7⟩, hW⟩ := hR.facts hn
  obtain ⟨hS, hU, hV, hA, hT, hE, hO⟩ := id hR
  unfold fX7_save fX8_save
  rcases slot_c (p0 := p0) (J := J) with ⟨i, hi, rfl, a1, a2⟩ | ⟨a1, a2⟩
  · obtain ⟨I1, c1, c2, c3⟩ := cp_e (I := I) (b := 258 + 24 * i) (b1 := 1) (by omega)
    rw [a1, ob_s, if_pos rfl, rld_n hi (by omega), ob_s, c1, ob_s, a2, ob2_some, if_pos e00, L574, nI_mul_n, show fX8_copies 307 311 0 (nI (574 * i)) (wr J 306 0 0) = _ from cps_e (k0 := 307) (k2 := 311) (o1 := 0) (o2 := 574 * i) zl307 zl311 (by omega) (by omega) ⟨by omega, by omega⟩ (by omega), ob_s, ast_n (by omega) (by omega), ob_s, L5, ald_n (by omega) (by omega), ob_s]
    have fI : ∀ k j, ¬ (258 + 24 * i ≤ k ∧ k < 258 + 24 * i + 24) → ¬ (k = 0 ∧ j = 6) → wr I1 0 6 (I1 0 6 ||| bit1 i) k j = I k j := fun k j h1 h2 => by
      rw [wr_n (by omega), c3 k j h1]
    have fJ : ∀ k j, k ≠ 311 → ¬ (k = 306 ∧ j = 0) → ¬ (k = 312 ∧ j = i) → wr (cpy (wr J 306 0 0) 307 0 311 (574 * i) 574) 312 i 1 k j = J k j := fun k j h1 h2 h3 => by
      rw [wr_n (by omega), cpy_ne (by omega), wr_n (by omega)]
    have ei : wr I1 0 6 (I1 0 6 ||| bit1 i) 1 7 = nI e := (fI _ _ (by omega) (by omega)).trans I7
    have ej : wr (cpy (wr J 306 0 0) 307 0 311 (574 * i) 574) 312 i 1 307 5 = nI e := (fJ _ _ (by omega) (by omega) (by omega)).trans J5
    refine ⟨0, nI e, wr I1 0 6 (I1 0 6 ||| bit1 i), nI e, _, by rw [← ei]; rfl, by rw [ej], ⟨?_, ?_, ?_, ?_, ?_, ?_, ?_⟩, Or.inl ⟨rfl, ?_, rfl⟩⟩
    · exact hS.cong (by omega) (fun k j h1 h2 => fI _ _ (by omega) (by omega)) (fun j => fJ _ _ (by omega) (by omega) (by omega))
    · exact hU.cong (by omega) (fun k j h1 h2 => fI _ _ (by omega) (by omega)) (fI _ _ (by omega) (by omega)) (fI _ _ (by omega) (by omega)) (fun j => fJ _ _ (by omega) (by omega) (by omega)) (fJ _ _ (by omega) (by omega) (by omega))
    · intro x hx
      obtain ⟨v1, v2, v3⟩ := hV x hx
      rw [show wr I1 0 6 (I1 0 6 ||| bit1 i) 0 6 = I 0 6 ||| bit1 i by rw [wr_s, c3 0 6 (by omega)], bit_set (by omega) (by omega)]
      by_cases hxi : x = i
      · subst hxi
        rw [wr_s]
        refine ⟨by simp, Or.inr rfl, fun _ => ⟨c, e, by omega, hW.cong (fun k j hr => ?_) (fun y hy => ?_)⟩⟩
        · rw [wr_n (by omega)]
          exact c2 k j hr
        · show wr (cpy (wr J 306 0 0) 307 0 311 (574 * x) 574) 312 x 1 311 (574 * x + y) = J 307 y
          rw [wr_n (by omega), cpy_at (by omega), wr_n (by omega)]
          congr 1
          omega
      · rw [wr_j hxi, cpy_ne (by omega), wr_n (by omega)]
        refine ⟨by rw [v1]; simp [hxi], v2, fun h => ?_⟩
        obtain ⟨c', e', he', hw'⟩ := v3 h
        refine ⟨c', e', by omega, hw'.cong (fun k j hr => fI _ _ (by unfold rng at hr; omega) (by omega)) (fun y hy => ?_)⟩
        show wr (cpy (wr J 306 0 0) 307 0 311 (574 * i) 574) 312 i 1 311 (574 * x + y) = J 311 (574 * x + y)
        rw [wr_n (by omega), cpy_ne (by omega), wr_n (by omega)]
    · exact RelA.cong (fun j => fI _ _ (by omega) (by omega)) (fun j => fJ _ _ (by omega) (by omega) (by omega)) hA
    · exact RelT.cong (fun j => fI _ _ (by omega) (by omega)) (fI _ _ (by omega) (by omega)) (fun j => fJ _ _ (by omega) (by omega) (by omega)) (fJ _ _ (by omega) (by omega) (by omega)) hT
    · exact RelE.cong (fI _ _ (by omega) (by omega)) (fI _ _ (by omega) (by omega)) (fJ _ _ (by omega) (by omega) (by omega)) (fJ _ _ (by omega) (by omega) (by omega)) hE
    · exact RelO.cong (fun j => fI _ _ (by omega) (by omega)) (fI _ _ (by omega) (by omega)) (fun j => fJ _ _ (by omega) (by omega) (by omega)) (fJ _ _ (by omega) (by omega) (by omega)) hO
    · rw [wr_n (by omega), cpy_ne (by omega), wr_s]
  · exact ⟨1, 0, I, 0, wr (wr J 306 0 0) 306 0 1, by rw [a1]; rfl, by rw [a2]; rfl, wJ0 hR 1, Or.inr ⟨rfl, wr_s⟩⟩
theorem q_44 : eqP_44 Rel := by
  intro n I J hn hR p0
  obtain ⟨hS, ⟨u, p, hu, hp8, I3, I4, J8, hU⟩, hV, hA, hT, hE, hO⟩ := id hR
  have t0 : (wr J 306 0 0) 306 0 = 0 := wr_s
  unfold fX7_restore fX8_restore
  rcases slot_c (p0 := p0) (J := J) with ⟨i, hi, rfl, a1, a2⟩ | ⟨a1, a2⟩
  · obtain ⟨v1, v2, v3⟩ := hV i hi
    rw [a1, ob_s, if_pos rfl, has7 (by omega), ob_s, v1, a2, ob2_some, if_pos e00, ald_n hi (by omega), ob_s, wr_n (by omega)]
    rcases v2 with v2 | v2
    · rw [v2, if_pos e00, plet_d, thr_12 t0, ob2_some, if_neg n10]
      exact ⟨3, 0, I, 0, wr (wr J 306 0 0) 306 0 2, rfl, rfl, wJ0 hR 2, Or.inr (Or.inr ⟨rfl, wr_s⟩)⟩
    · obtain ⟨c, e, he, hw⟩ := v3 v2
      rw [v2, if_neg n10, plet_d, thr_0 t0, ob2_some, if_pos e00, show decide ((1 : Int32) = 1) = true from rfl, b2i_t, if_neg n10, rld_n hi (by omega), ob_s]
      obtain ⟨I1, c1, c2, c3⟩ := cp_e (I := I) (b := 1) (b1 := 258 + 24 * i) (by omega)
      rw [c1, ob_s, L574, nI_mul_n, show fX8_copies 311 307 (nI (574 * i)) 0 (wr J 306 0 0) = _ from cps_e (k0 := 311) (k2 := 307) (o1 := 574 * i) (o2 := 0) zl311 zl307 (by omega) (by omega) ⟨by omega, by omega⟩ (by omega), ob_s, ald_0 (by omega) (by omega), ob_s]
      have fI : ∀ k j, ¬ (1 ≤ k ∧ k < 25) → ¬ (k = 0 ∧ j = 3) → wr I1 0 3 0 k j = I k j := fun k j h1 h2 => by
        rw [wr_n (by omega), c3 k j (by omega)]
      have fJ : ∀ k j, k ≠ 307 → ¬ (k = 306 ∧ (j = 0 ∨ j = 8)) → wr (cpy (wr J 306 0 0) 311 (574 * i) 307 0 574) 306 8 0 k j = J k j := fun k j h1 h2 => by
        rw [wr_n (by omega), cpy_ne (by omega), wr_n (by omega)]
      have hw2 : EW c e (wr I1 0 3 0) 1 (wr (cpy (wr J 306 0 0) 311 (574 * i) 307 0 574) 306 8 0 307) := hw.cong (fun k j hr => by rw [wr_n (by omega)]; exact c2 k j hr) (fun x hx => by
        rw [wr_n (by omega), cpy_at (by omega), wr_n (by omega)]
        show J 311 (574 * i + (x - 0)) = J 311 (574 * i + x)
        rw [Nat.sub_zero])
      refine ⟨0, wr I1 0 3 0 2 0, wr I1 0 3 0, _, _, rfl, rfl, ⟨⟨c, e, by omega, hw2⟩, ⟨0, p, by omega, hp8, wr_s, ?_, wr_s, fun i hi => by omega⟩, ?_, ?_, ?_, ?_, ?_⟩, Or.inl ⟨rfl, ?_, ?_⟩⟩
      · rw [fI _ _ (by omega) (by omega)]; exact I4
      · exact RelV.cong (by omega) (fun k j h1 h2 => fI _ _ (by omega) (by omega)) (fI _ _ (by omega) (by omega)) (fun j => fJ _ _ (by omega) (by omega)) (fun j => fJ _ _ (by omega) (by omega)) hV
      · exact RelA.cong (fun j => fI _ _ (by omega) (by omega)) (fun j => fJ _ _ (by omega) (by omega)) hA
      · exact RelT.cong (fun j => fI _ _ (by omega) (by omega)) (fI _ _ (by omega) (by omega)) (fun j => fJ _ _ (by omega) (by omega)) (fJ _ _ (by omega) (by omega)) hT
      · exact RelE.cong (fI _ _ (by omega) (by omega)) (fI _ _ (by omega) (by omega)) (fJ _ _ (by omega) (by omega)) (fJ _ _ (by omega) (by omega)) hE
      · exact RelO.cong (fun j => fI _ _ (by omega) (by omega)) (fI _ _ (by omega) (by omega)) (fun j => fJ _ _ (by omega) (by omega)) (fJ _ _ (by omega) (by omega)) hO
      · rw [wr_n (by omega), cpy_ne (by omega), wr_s]
      · rw [show wr I1 0 3 0 2 0 = nI c from hw2.2.1.1]
        exact hw2.1.1.2.2.1.symm
  · exact ⟨1, 0, I, 0, wr (wr J 306 0 0) 306 0 1, by rw [a1]; rfl, by rw [a2]; rfl, wJ0 hR 1, Or.inr (Or.inl ⟨rfl, wr_s⟩)⟩
