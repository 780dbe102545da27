/-! LOAD -/
section LD
variable {T : Nat → Nat} {L N i : Nat} {I J : Mem}
/-- behind a statement: the draft grown or not, the terms as they were -/
def DP (I J I' J' : Mem) : Prop := (∃ c, DR c I' J') ∧ ∀ j, 3 ≤ j → j ≤ 5 → I' 25 j = I 25 j ∧ J' 309 (j - 2) = J 309 (j - 2)
theorem OK.mono {P Q : Mem → Mem → Prop} {o : Option Mem} {r : Option (Int32 × Mem)} (h : OK T L N i I J P o r) (hp : ∀ I' J', P I' J' → Q I' J') : OK T L N i I J Q o r := by
  rcases h with ⟨i', I', J', a1, a2, a3, a4, a5, a6⟩ | h
  · exact Or.inl ⟨i', I', J', a1, a2, a3, a4, hp _ _ a5, a6⟩
  · exact Or.inr h
theorem buoy_S {c : Nat} (h : St T L N i I J) (hD : DR c I J) (h8 : kd T L (sg T L i) = 8) : OK T L N i I J (DP I J) (fX7_readBuoy I) (fX8_readBuoy J) := by
  have hN := h.lt h8 (by omega)
  obtain ⟨⟨d1, d2, d3, -⟩, -⟩ := id hD
  have hcls : fX7_readBuoy I = Option.bind (if (I 26 0) < (10 : Int32) then some I else Option.bind (fX2_fail (4 : Int32) I) fun I1 => some I1) fun I2 => Option.bind (fX2_takeKind (8 : Int32) I2) fun I3 => ob2 (fX2_lookNumber (0 : Int32) (9999 : Int32) I3) fun x4 I5 => Option.bind (fX0_lastHome 25 I5) fun x6 => Option.bind (if x6 < x4 then some I5 else Option.bind (fX2_fail (3 : Int32) I5) fun I7 => some I7) fun I8 => rbC x4 I8 := rfl
  have href : fX8_readBuoy J = Option.bind (ald J 309 574 (0 : Int32)) fun x1 => plet (if (10 : Int32) ≤ x1 then (0 : Int32) else (1 : Int32)) fun x2 => ob2 (fX8_starts (4 : Int32) x2 J) fun x3 J4 => if x3 = 0 then Option.bind (zbo (0 : Int32)) fun v9 => some (v9, J4) else ob2 (fX8_stands (0 : Int32) (9999 : Int32) J4) fun x5 J6 => if x5 = 0 then Option.bind (zbo (0 : Int32)) fun v9 => some (v9, J6) else if x1 ≤ 0 then rbT x1 J6 else Option.bind (ald J6 309 574 (((12 : Int32) + x1) - (1 : Int32))) fun x25 => if x25 < (J6 306 17) then rbT x1 J6 else ob2 (fX8_fails (3 : Int32) J6) fun x44 J45 => Option.bind (zbo x44) fun v9 => some (v9, J45) := rfl
  rw [hcls, href, d2, ald_0 (by omega) (by omega), ob_s, plet_d, d3]
  -- what the class does behind an error
  have tailE : ∀ (I3 : Mem), EI I3 → I3 26 0 = nI c → ∀ a b : Int32, ∃ I', (ob2 (fX2_lookNumber a b I3) fun x4 I5 => Option.bind (fX0_lastHome 25 I5) fun x6 => Option.bind (if x6 < x4 then some I5 else Option.bind (fX2_fail (3 : Int32) I5) fun I7 => some I7) fun I8 => rbC x4 I8) = some I' ∧ gI I3 I' ∧ ∀ j, I' 56 j = I3 56 j := by
    intro I3 hE hc a b
    obtain ⟨I', a1, a2, a3⟩ := rbC_E hE hc d1 a
    refine ⟨I', ?_, a2, a3⟩
    rw [look_E hE, ob2_some, lastHome_e hc d1, ob_s, fail_E hE]
    simp only [ob_s, ite_self]
    exact a1
  by_cases hc : c < 10
  · rw [if_pos (show nI c < 10 from show nI c < nI 10 by rw [nI_ltP (by omega) (by omega)]; omega), ob_s, show fX2_takeKind 8 I = _ from take_ok (k := 8) h h8 (by omega), ob_s, if_neg (show ¬ (10 : Int32) ≤ nI c from show ¬ nI 10 ≤ nI c by rw [nI_leP (by omega) (by omega)]; omega)]
    obtain ⟨J4, e4, hS4, f4⟩ := adv_S h hN
    rw [show fX8_starts 4 1 J = some (1, J4) by unfold fX8_starts; rw [if_neg n10, e4, ob_s, zbo_1, ob_s], ob2_some, if_neg n10]
    have hD4 : DR c (wr I 56 5 (nI (i + 1))) J4 := hD.cg (fun k j q1 q2 q3 => wr_k (by omega)) (fun j q => f4 _ _ (by omega))
    rcases look_S hS4 (a := 0) (b := nI 9999) (by omega) (by decide) with ⟨h1, -, h3, e1, e2⟩ | ⟨I', J', e1, e2, f3, f4', f5⟩
    · rw [show fX2_lookNumber 0 9999 _ = _ from e1, show fX8_stands 0 9999 J4 = _ from e2, ob2_some, ob2_some, if_neg n10, lastHome_e hD4.1.2.1 d1, ob_s]
      have hvv := (hS4.ld0 h1).2.2
      have hS5 : St T L N (i + 1) (wr I 56 5 (nI (i + 1))) (wr J4 306 17 (nI (vv T L (i + 1)))) := hS4.cg (fun _ _ _ _ => rfl) (fun k j q => wr_n (by omega))
      have hD5 : DR c (wr I 56 5 (nI (i + 1))) (wr J4 306 17 (nI (vv T L (i + 1)))) := hD4.cg (fun _ _ _ _ _ => rfl) (fun j q => wr_k (by omega))
      have ok := rb_tail hS5 hD5 hc h1 wr_s
      have lift : OK T L N (i + 1) (wr I 56 5 (nI (i + 1))) (wr J4 306 17 (nI (vv T L (i + 1)))) (fun I' J' => DR (c + 1) I' J' ∧ ∀ j, 3 ≤ j → j ≤ 5 → I' 25 j = (wr I 56 5 (nI (i + 1))) 25 j ∧ J' 309 (j - 2) = (wr J4 306 17 (nI (vv T L (i + 1)))) 309 (j - 2)) (rbC (nI (vv T L (i + 1))) (wr I 56 5 (nI (i + 1)))) (rbT (nI c) (wr J4 306 17 (nI (vv T L (i + 1))))) → OK T L N i I J (DP I J) (rbC (nI (vv T L (i + 1))) (wr I 56 5 (nI (i + 1)))) (rbT (nI c) (wr J4 306 17 (nI (vv T L (i + 1))))) := by
        have g1 : gI I (wr I 56 5 (nI (i + 1))) := fI.wr5.g
        have g2 : gJ J (wr J4 306 17 (nI (vv T L (i + 1)))) := (f4.tr fJ.wr17).g
        rintro (⟨i', I', J', a1, a2, a3, a4, ⟨a5, a6⟩, a7, a8⟩ | ⟨I', J', a1, a2, a3, a4, a5⟩)
        · refine Or.inl ⟨i', I', J', by omega, a2, a3, a4, ⟨⟨c + 1, a5⟩, fun j q1 q2 => ⟨?_, ?_⟩⟩, g1.tr a7, g2.tr a8⟩
          · rw [(a6 j q1 q2).1, wr_k (by omega)]
          · rw [(a6 j q1 q2).2, wr_k (by omega), f4 _ _ (by omega)]
        · exact Or.inr ⟨I', J', a1, a2, a3, g1.tr a4, g2.tr a5⟩
      -- an order that is wrong
      have bad : ∀ x6 : Int32, ¬ x6 < nI (vv T L (i + 1)) → OK T L N i I J (DP I J) (Option.bind (if x6 < nI (vv T L (i + 1)) then some (wr I 56 5 (nI (i + 1))) else Option.bind (fX2_fail (3 : Int32) (wr I 56 5 (nI (i + 1)))) fun I7 => some I7) fun I8 => rbC (nI (vv T L (i + 1))) I8) (ob2 (fX8_fails (3 : Int32) (wr J4 306 17 (nI (vv T L (i + 1))))) fun x44 J45 => Option.bind (zbo x44) fun v9 => some (v9, J45)) := by
        intro x6 hx
        obtain ⟨I', J', b1, b2, b3, b4, b5⟩ := fails_S hS5 (c := 3) (by omega) (by omega)
        obtain ⟨I2, a1, a2, a3⟩ := rbC_E b3.1 (c := c) (by rw [b4 _ _ (by omega)]; exact hD4.1.2.1) d1 (nI (vv T L (i + 1)))
        rw [if_neg hx, show fX2_fail 3 _ = _ from b1, show fX8_fails 3 _ = _ from b2, ob_s, ob_s, ob2_some, zbo_0, ob_s]
        exact Or.inr ⟨I2, J', a1, rfl, b3.cg a3 (fun _ _ _ => rfl), (fI.wr5.tr b4).g.tr a2, ((f4.tr fJ.wr17).tr b5).g⟩
      by_cases hc0 : c = 0
      · rw [if_pos hc0, if_pos (show (-1 : Int32) < nI (vv T L (i + 1)) by rw [Int32.lt_iff_toInt_lt, nI_toInt (by omega)]; show (-1 : Int) < _; omega), ob_s, if_pos (show nI c ≤ 0 by rw [hc0]; decide)]
        exact lift ok
      · have hl : (wr J4 306 17 (nI (vv T L (i + 1)))) 309 (12 + (c - 1)) = (wr I 56 5 (nI (i + 1))) 27 (c - 1) := ((hD5.2.2 (c - 1) (by omega)).1.1).symm
        rw [if_neg hc0, if_neg (nI_nle (by omega) (by omega)), L12, nI_addn, nI_sub1 (by omega) (by omega), ald_n (by omega) (by omega), ob_s, show 12 + c - 1 = 12 + (c - 1) by omega, hl, wr_s]
        by_cases hx : (wr I 56 5 (nI (i + 1))) 27 (c - 1) < nI (vv T L (i + 1))
        · rw [if_pos hx, if_pos hx, ob_s]
          exact lift ok
        · rw [if_neg (show ¬ _ < (nI (vv T L (i + 1))) from hx)]
          have := bad _ hx
          rw [if_neg hx] at this
          rw [if_neg hx]
          exact this
    · rw [show fX8_stands 0 9999 J4 = _ from e2, ob2_some, if_pos rfl, zbo_0, ob_s, show fX2_lookNumber 0 9999 _ = _ from e1, ob2_some, lastHome_e (show I' 26 0 = nI c by rw [f4' _ _ (by omega), wr_k (by omega)]; exact d2) d1, ob_s, fail_E f3.1]
      obtain ⟨I2, a1, a2, a3⟩ := rbC_E f3.1 (c := c) (by rw [f4' _ _ (by omega), wr_k (by omega)]; exact d2) d1 (nI 0)
      simp only [ob_s, ite_self]
      exact Or.inr ⟨I2, J', a1, rfl, f3.cg a3 (fun _ _ _ => rfl), (fI.wr5.tr f4').g.tr a2, (f4.tr f5).g⟩
  · obtain ⟨I', J', b1, b2, b3, b4, b5⟩ := fails_S h (c := 4) (by omega) (by omega)
    rw [if_neg (show ¬ nI c < 10 from show ¬ nI c < nI 10 by rw [nI_ltP (by omega) (by omega)]; omega), show fX2_fail 4 I = _ from b1, ob_s, ob_s, take_E b3.1, ob_s, if_pos (show (10 : Int32) ≤ nI c from show nI 10 ≤ nI c by rw [nI_leP (by omega) (by omega)]; omega), show fX8_starts 4 0 J = some (0, J') by unfold fX8_starts; rw [if_pos rfl, show fX8_fails 4 J = _ from b2, ob2_some, zbo_0, ob_s], ob2_some, if_pos rfl, zbo_0, ob_s]
    obtain ⟨I2, a1, a2, a3⟩ := tailE I' b3.1 (by rw [b4 _ _ (by omega)]; exact d2) 0 9999
    exact Or.inr ⟨I2, J', a1, rfl, b3.cg a3 (fun _ _ _ => rfl), b4.g.tr a2, b5.g⟩
theorem str_e (a1 a2 : Int32) : ∃ I', fX3_strengthen 25 a1 a2 I = some I' ∧ (∀ k j, k ≠ 37 → I' k j = I k j) ∧ ∀ v, v < 10 → a1 = nI v → I' = wr I 37 v a2 := by
  unfold fX3_strengthen
  rcases inx (c := 10) (by omega) a1 with ⟨v, hv, rfl⟩ | hx
  · rw [if_neg (nI_pos (by omega)), if_neg (show ¬ (10 : Int32) ≤ nI v from show ¬ nI 10 ≤ nI v by rw [nI_leP (by omega) (by omega)]; omega), ast_n hv (by omega), ob_s, ob_s]
    exact ⟨_, rfl, fun k j q => wr_k q, fun w hw e => by rw [(nI_eqP (by omega) (by omega)).mp e]⟩
  · refine ⟨I, ?_, fun _ _ _ => rfl, fun w hw e => ?_⟩
    · by_cases h0 : a1 < 0
      · rw [if_pos h0, ob_s]
      · rw [if_neg h0, if_pos (show (10 : Int32) ≤ a1 from hx.resolve_left h0), ob_s]
    · rw [e] at hx
      rcases hx with hx | hx
      · exact absurd hx (nI_pos (by omega))
      · rw [nI_leP (by omega) (by omega)] at hx; omega
theorem rope_S {c : Nat} (h : St T L N i I J) (hD : DR c I J) (h9 : kd T L (sg T L i) = 9) : OK T L N i I J (DP I J) (fX7_readRope I) (Option.bind (fX8_advance J) fun J9 => ob2 (fX8_readRope J9) fun x10 J11 => Option.bind (zbo x10) fun v9 => some (v9, J11)) := by
  have hN := h.lt h9 (by omega)
  obtain ⟨⟨d1, d2, d3, -⟩, -⟩ := id hD
  obtain ⟨J2, e2, hS2, f2⟩ := adv_S h hN
  unfold fX7_readRope fX8_readRope
  have hb : (nI c - 2).toInt < 1000000 ∧ (nI c - 2).toInt = (c : Int) - 2 := by
    have : ∀ c, c ≤ 10 → (nI c - 2).toInt = (c : Int) - 2 := by
      have h : ∀ c, c < 11 → (nI c - 2).toInt = (c : Int) - 2 := by decide +kernel
      exact fun c hc => h c (by omega)
    rw [this c d1]
    omega
  rw [show fX2_takeKind 9 I = _ from take_ok (k := 9) h h9 (by omega), ob_s, e2, ob_s, ald_0 (by omega) (by omega), ob_s, f2 _ _ (by omega), d3, wr_k (by omega), d2]
  rcases num_S hS2 (a := 0) (b := nI c - 2) (by omega) hb.1 with ⟨v, J3, -, -, b3, -, c1, c2, hS3, c17, f3⟩ | ⟨I', J', c1, c2, c3, c4, c5⟩
  · rw [show fX2_takeNumber 0 (nI c - 2) _ = _ from c1, show fX8_takes 0 (nI c - 2) J2 = _ from c2, ob2_some, ob2_some, if_neg n10, c17, L112, nI_addn]
    rw [hb.2] at b3
    rcases into_S hS3 (a := 1) (b := nI 99) (x := 112 + v) (by omega) (by decide) (by omega) with ⟨v2, J4, -, b2, -, -, c1, c2, hS4, f4⟩ | ⟨I', J', c1, c2, c3, c4, c5⟩
    · rw [show fX2_takeNumber 1 99 _ = _ from c1, show fX8_takesInto (nI (112 + v)) 1 99 _ = _ from c2, ob2_some, ob2_some, zbo_1, ob_s, ob2_some, zbo_1, ob_s]
      have hw : ∀ y z w : Int32, wr (wr (wr I 56 5 y) 56 5 z) 56 5 w = wr I 56 5 w := fun y z w => by
        funext k j
        by_cases hk : k = 56 ∧ j = 5
        · obtain ⟨rfl, rfl⟩ := hk; rw [wr_s, wr_s]
        · rw [wr_n hk, wr_n hk, wr_n hk, wr_n hk]
      rw [hw] at hS4 ⊢
      obtain ⟨I', a1, -, a2⟩ := str_e (I := wr I 56 5 (nI (i + 1 + 1 + 1))) (nI v) (nI v2)
      rw [a1, ob_s, a2 v (by omega) rfl]
      refine Or.inl ⟨i + 1 + 1 + 1, _, _, by omega, rfl, rfl, hS4.cg (fun k j q1 q2 => wr_k (by omega)) (fun _ _ _ => rfl), ⟨⟨c, ?_⟩, fun j q1 q2 => ⟨?_, ?_⟩⟩, fI.wr5.g.tr (gI.wr (by omega)), ((f2.tr f3).tr f4).g.tr gJ.wr⟩
      · obtain ⟨⟨-, -, -, d4, d5, d6⟩, ⟨d7, d8, d9, d10⟩, d11⟩ := hD
        have j4 : ∀ j, ¬ j = 112 + v → (wr J4 309 (112 + v) (nI v2)) 309 j = J 309 j := fun j q => by rw [wr_j q, f4 _ _ (by omega), f3 _ _ (by omega), f2 _ _ (by omega)]
        have i4 : ∀ k j, k ≠ 37 → k ≠ 56 → (wr (wr I 56 5 (nI (i + 1 + 1 + 1))) 37 v (nI v2)) k j = I k j := fun k j q1 q2 => by rw [wr_k q1, wr_k q2]
        refine ⟨⟨d1, ?_, ?_, ?_, ?_, fun j a b => ?_⟩, ⟨?_, fun x a b => ?_, fun j a b => ?_, fun j a => ?_⟩, fun j a => ?_⟩
        · rw [i4 _ _ (by omega) (by omega)]; exact d2
        · rw [j4 _ (by omega)]; exact d3
        · rw [i4 _ _ (by omega) (by omega)]; exact d4
        · rw [i4 _ _ (by omega) (by omega)]; exact d5
        · rw [i4 _ _ (by omega) (by omega)]; exact d6 j a b
        · rw [i4 _ _ (by omega) (by omega), j4 _ (by omega)]; exact d7
        · rw [j4 _ (by omega)]; exact d8 x a b
        · rw [j4 _ (by omega)]; exact d9 j a b
        · by_cases hj : j = v
          · subst hj
            rw [wr_s, wr_s, i4 _ _ (by omega) (by omega)]
            exact ⟨rfl, (d10 j a).2⟩
          · rw [wr_j hj, wr_k (by omega), j4 _ (by omega), i4 _ _ (by omega) (by omega)]
            exact d10 j a
        · rw [i4 27 _ (by omega) (by omega), i4 28 _ (by omega) (by omega), i4 29 _ (by omega) (by omega), i4 30 _ (by omega) (by omega), i4 31 _ (by omega) (by omega), i4 32 _ (by omega) (by omega), i4 33 _ (by omega) (by omega), i4 34 _ (by omega) (by omega), i4 35 _ (by omega) (by omega), j4 (12 + j) (by omega), j4 (22 + j) (by omega), j4 (32 + j) (by omega), j4 (42 + j) (by omega)]
          exact d11 j a
      · simp (disch := omega) only [wr_k]
      · rw [wr_j (by omega), f4 _ _ (by omega), f3 _ _ (by omega), f2 _ _ (by omega)]
    · rw [show fX2_takeNumber 1 99 _ = _ from c1, show fX8_takesInto (nI (112 + v)) 1 99 _ = _ from c2, ob2_some, ob2_some, zbo_0, ob_s, ob2_some, zbo_0, ob_s]
      obtain ⟨I2, a1, a2, -⟩ := str_e (I := I') (nI v) (nI 1)
      rw [a1, ob_s]
      exact Or.inr ⟨I2, J', rfl, rfl, c3.cg (fun j => a2 _ _ (by omega)) (fun _ _ _ => rfl), ((fI.wr5.tr fI.wr5).tr c4).g.tr (fun k j q => a2 k j (by omega)), ((f2.tr f3).tr c5).g⟩
  · rw [show fX2_takeNumber 0 (nI c - 2) _ = _ from c1, show fX8_takes 0 (nI c - 2) J2 = _ from c2, ob2_some, ob2_some, if_pos rfl, zbo_0, ob_s, ob2_some, zbo_0, ob_s, num_E c3.1, ob2_some]
    obtain ⟨I2, a1, a2, -⟩ := str_e (I := I') (nI 0) 1
    rw [a1, ob_s]
    exact Or.inr ⟨I2, J', rfl, rfl, c3.cg (fun j => a2 _ _ (by omega)) (fun _ _ _ => rfl), (fI.wr5.tr c4).g.tr (fun k j q => a2 k j (by omega)), (f2.tr c5).g⟩
theorem stock_S {c : Nat} (h : St T L N i I J) (hD : DR c I J) (h10 : kd T L (sg T L i) = 10) : OK T L N i I J (DP I J) (Option.bind (fX2_takeKind (10 : Int32) I) fun I15 => ob2 (fX2_takeNumber (0 : Int32) (99999 : Int32) I15) fun x16 I17 => some (wr I17 25 6 x16)) (Option.bind (fX8_advance J) fun J4 => ob2 (fX8_takesInto (4 : Int32) (0 : Int32) (99999 : Int32) J4) fun x5 J6 => Option.bind (zbo x5) fun v9 => some (v9, J6)) := by
  have hN := h.lt h10 (by omega)
  obtain ⟨J2, e2, hS2, f2⟩ := adv_S h hN
  rw [show fX2_takeKind 10 I = _ from take_ok (k := 10) h h10 (by omega), ob_s, e2, ob_s]
  rcases into_S hS2 (a := 0) (b := nI 99999) (x := 4) (by omega) (by decide) (by omega) with ⟨v, J3, -, -, -, -, c1, c2, hS3, f3⟩ | ⟨I', J', c1, c2, c3, c4, c5⟩
  · rw [show fX2_takeNumber 0 99999 _ = _ from c1, show fX8_takesInto 4 0 99999 J2 = _ from c2, ob2_some, ob2_some, zbo_1, ob_s]
    have hw : ∀ y z : Int32, wr (wr I 56 5 y) 56 5 z = wr I 56 5 z := fun y z => by
      funext k j
      by_cases hk : k = 56 ∧ j = 5
      · obtain ⟨rfl, rfl⟩ := hk; rw [wr_s, wr_s]
      · rw [wr_n hk, wr_n hk, wr_n hk]
    rw [hw] at hS3 ⊢
    refine Or.inl ⟨i + 1 + 1, _, _, by omega, rfl, rfl, hS3.cg (fun k j q1 q2 => wr_k (by omega)) (fun _ _ _ => rfl), ⟨⟨c, ?_⟩, fun j q1 q2 => ⟨?_, ?_⟩⟩, fI.wr5.g.tr (gI.wr (by omega)), (f2.tr f3).g.tr gJ.wr⟩
    · obtain ⟨⟨d1, d2, d3, d4, d5, d6⟩, ⟨d7, d8, d9, d10⟩, d11⟩ := hD
      have j4 : ∀ j, ¬ j = 4 → (wr J3 309 4 (nI v)) 309 j = J 309 j := fun j q => by rw [wr_j q, f3 _ _ (by omega), f2 _ _ (by omega)]
      have i4 : ∀ k j, ¬ (k = 25 ∧ j = 6) → k ≠ 56 → (wr (wr I 56 5 (nI (i + 1 + 1))) 25 6 (nI v)) k j = I k j := fun k j q1 q2 => by rw [wr_n q1, wr_k q2]
      refine ⟨⟨d1, ?_, ?_, ?_, ?_, fun j a b => ?_⟩, ⟨?_, fun x a b => ?_, fun j a b => ?_, fun j a => ?_⟩, fun j a => ?_⟩
      · rw [i4 _ _ (by omega) (by omega)]; exact d2
      · rw [j4 _ (by omega)]; exact d3
      · rw [i4 _ _ (by omega) (by omega)]; exact d4
      · rw [i4 _ _ (by omega) (by omega)]; exact d5
      · rw [i4 _ _ (by omega) (by omega)]; exact d6 j a b
      · rw [wr_s, wr_s]
      · rw [j4 _ (by omega)]; exact d8 x a b
      · rw [j4 _ (by omega)]; exact d9 j a b
      · rw [i4 _ _ (by omega) (by omega), i4 _ _ (by omega) (by omega), j4 _ (by omega)]
        exact d10 j a
      · rw [i4 27 _ (by omega) (by omega), i4 28 _ (by omega) (by omega), i4 29 _ (by omega) (by omega), i4 30 _ (by omega) (by omega), i4 31 _ (by omega) (by omega), i4 32 _ (by omega) (by omega), i4 33 _ (by omega) (by omega), i4 34 _ (by omega) (by omega), i4 35 _ (by omega) (by omega), j4 (12 + j) (by omega), j4 (22 + j) (by omega), j4 (32 + j) (by omega), j4 (42 + j) (by omega)]
        exact d11 j a
    · simp (disch := omega) only [wr_n]
    · rw [wr_j (by omega), f3 _ _ (by omega), f2 _ _ (by omega)]
  · rw [show fX2_takeNumber 0 99999 _ = _ from c1, show fX8_takesInto 4 0 99999 J2 = _ from c2, ob2_some, ob2_some, zbo_0, ob_s]
    exact Or.inr ⟨_, J', rfl, rfl, c3.cg (fun j => wr_k (by omega)) (fun _ _ _ => rfl), (fI.wr5.tr c4).g.tr (gI.wr (by omega)), (f2.tr c5).g⟩
/-- any statement -/
def stC (I : Mem) (x12 : Int32) : Option Mem :=
            if x12 = (8 : Int32) then
              Option.bind (fX7_readBuoy I) fun I13 =>
              some I13
            else if x12 = (9 : Int32) then
              Option.bind (fX7_readRope I) fun I14 =>
              some I14
            else if x12 = (10 : Int32) then
              Option.bind (fX2_takeKind (10 : Int32) I) fun I15 =>
              ob2 (fX2_takeNumber (0 : Int32) (99999 : Int32) I15) fun x16 I17 =>
              some (wr I17 25 6 x16)
            else 
              Option.bind (fX2_fail (1 : Int32) I) fun I18 =>
              some I18
theorem OK.b1 {P : Mem → Mem → Prop} {o : Option Mem} {r : Option (Int32 × Mem)} (h : OK T L N i I J P o r) : OK T L N i I J P (Option.bind o fun I' => some I') r := by
  rcases h with ⟨i', I', J', a1, a2, a3⟩ | ⟨I', J', a1, a2⟩
  · exact Or.inl ⟨i', I', J', a1, by rw [a2]; rfl, a3⟩
  · exact Or.inr ⟨I', J', by rw [a1]; rfl, a2⟩
theorem OK.b2 {P : Mem → Mem → Prop} {o : Option Mem} {r : Option (Int32 × Mem)} (h : OK T L N i I J P o r) : OK T L N i I J P o (ob2 r fun x J' => Option.bind (zbo x) fun v9 => some (v9, J')) := by
  rcases h with ⟨i', I', J', a1, a2, a3, a4⟩ | ⟨I', J', a1, a2, a4⟩
  · exact Or.inl ⟨i', I', J', a1, a2, by rw [a3]; rfl, a4⟩
  · exact Or.inr ⟨I', J', a1, by rw [a2]; rfl, a4⟩
theorem stmt_S {c : Nat} (h : St T L N i I J) (hD : DR c I J) : OK T L N i I J (DP I J) (stC I (nI (kd T L (sg T L i)))) (fX8_readStatement J) := by
  have hv := @kd_v T L (sg T L i)
  unfold stC fX8_readStatement
  simp only [show (nI (kd T L (sg T L i)) = 8) = (kd T L (sg T L i) = 8) from nI_eqP (b := 8) (by omega) (by omega), show (nI (kd T L (sg T L i)) = 9) = (kd T L (sg T L i) = 9) from nI_eqP (b := 9) (by omega) (by omega), show (nI (kd T L (sg T L i)) = 10) = (kd T L (sg T L i) = 10) from nI_eqP (b := 10) (by omega) (by omega)]
  rw [word_S h (w := 1) (by omega), ob_s]
  by_cases h8 : kd T L (sg T L i) = 8
  · rw [if_pos h8, decide_eq_true h8, if_neg (show ¬ b2i true = 0 by decide)]
    exact (buoy_S h hD h8).b1.b2
  · rw [if_neg h8, decide_eq_false h8, if_pos (show b2i false = 0 by decide), word_S h (w := 2) (by omega), ob_s]
    by_cases h9 : kd T L (sg T L i) = 9
    · rw [if_pos h9, decide_eq_true h9, if_neg (show ¬ b2i true = 0 by decide)]
      exact (rope_S h hD h9).b1
    · rw [if_neg h9, decide_eq_false h9, if_pos (show b2i false = 0 by decide), word_S h (w := 3) (by omega), ob_s]
      by_cases h10 : kd T L (sg T L i) = 10
      · rw [if_pos h10, decide_eq_true h10, if_neg (show ¬ b2i true = 0 by decide)]
        exact stock_S h hD h10
      · obtain ⟨I', J', b1, b2, b3, b4, b5⟩ := fails_S h (c := 1) (by omega) (by omega)
        rw [if_neg h10, decide_eq_false h10, if_pos (show b2i false = 0 by decide), show fX2_fail 1 I = _ from b1, ob_s, show fX8_fails 1 J = _ from b2, ob2_some, zbo_0, ob_s]
        exact Or.inr ⟨I', J', rfl, rfl, b3, b4.g, b5.g⟩
/-- all statements, up to the end -/
theorem loadE_L (h : EI I) {x n : Nat} (hx : x ≤ 501) : fX7_readSetup_L85 (n + 1) (nI x) I = some I := by
  rw [fX7_readSetup_L85, more_E h, ob_s, if_pos rfl]
  exact ite_self _
theorem load_L : ∀ (d x n m i c : Nat) (I J : Mem), N - i = d → x ≤ i → d + 2 < n → d + 2 < m → St T L N i I J → DR c I J → ∃ (ok : Int32) (I' J' : Mem), fX7_readSetup_L85 n (nI x) I = some I' ∧ fX8_load_L77 m 1 J = some (ok, J') ∧ gI I I' ∧ gJ J J' ∧ ((ok = 1 ∧ St T L N N I' J' ∧ DP I J I' J') ∨ (ok = 0 ∧ Er I' J')) := by
  intro d
  induction d using Nat.strongRecOn with
  | ind d ih =>
    intro x n m i c I J hd hx hn hm h hD
    obtain ⟨n, rfl⟩ := fuel hn
    obtain ⟨m, rfl⟩ := fuel hm
    have hN5 := h.N5
    have hiN := h.iN
    have htk := h.t13 (k := 0) (by omega)
    have hkd := h.hi
    rw [kd_0, ← tk_0, ← htk] at hkd
    rw [fX7_readSetup_L85, fX8_load_L77, if_neg n10]
    by_cases hend : i = N
    · subst hend
      rw [if_pos (show J 306 13 = 0 from hkd.mpr rfl), more_S h, ob_s, decide_eq_false (by omega), if_pos (show b2i false = 0 by decide), ite_self]
      exact ⟨1, I, J, rfl, rfl, gI.rf, gJ.rf, Or.inl ⟨rfl, h, ⟨c, hD⟩, fun _ _ _ => ⟨rfl, rfl⟩⟩⟩
    · rw [if_neg (show ¬ J 306 13 = 0 from fun q => hend (hkd.mp q)), if_neg (show ¬ (500 : Int32) ≤ nI x from show ¬ nI 500 ≤ nI x by rw [nI_leP (by omega) (by omega)]; omega), more_S h, ob_s, decide_eq_true (by omega), if_neg (show ¬ b2i true = 0 by decide), kind_S h, ob_s]
      rcases stmt_S h hD with ⟨i1, I1, J1, a1, a2, a3, a4, ⟨⟨c1, a5⟩, a6⟩, a7, a8⟩ | ⟨I1, J1, a2, a3, a4, a5, a6⟩
      · unfold stC at a2
        rw [a2, a3, ob_s, ob2_some, if_neg n10]
        rcases stop_S a4 with ⟨J2, b1, b2, b3, b4, b5⟩ | ⟨I2, J2, b2, b3, b4, b5, b6⟩
        · rw [b2, b3, ob_s, ob2_some, if_neg n10, ob2_some, nI_1]
          obtain ⟨ok, I', J', c1, c2, c3, c4, c5⟩ := ih (N - (i1 + 1)) (by omega) (x + 1) n m (i1 + 1) _ _ _ rfl (by omega) (by omega) (by omega) b4 (a5.cg (fun k j q1 q2 q3 => wr_k (by omega)) (fun j q => b5 _ _ (by omega)))
          refine ⟨ok, I', J', c1, c2, (a7.tr fI.wr5.g).tr c3, (a8.tr b5.g).tr c4, ?_⟩
          rcases c5 with ⟨c5, c6, c7, c8⟩ | c5
          · refine Or.inl ⟨c5, c6, c7, fun j q1 q2 => ⟨?_, ?_⟩⟩
            · rw [(c8 j q1 q2).1, wr_k (by omega), (a6 j q1 q2).1]
            · rw [(c8 j q1 q2).2, b5 _ _ (by omega), (a6 j q1 q2).2]
          · exact Or.inr c5
        · rw [b2, b3, ob_s, ob2_some, if_pos rfl, ob2_some, nI_1]
          obtain ⟨n, rfl⟩ := fuel (show 0 < n by omega)
          obtain ⟨m, rfl⟩ := fuel (show 0 < m by omega)
          rw [loadE_L b4.1 (by omega), fX8_load_L77, if_pos rfl]
          exact ⟨0, I2, J2, rfl, rfl, a7.tr b5.g, a8.tr b6.g, Or.inr ⟨rfl, b4⟩⟩
      · unfold stC at a2
        rw [a2, a3, ob_s, ob2_some, if_pos rfl, ob2_some, take_E a4.1, ob_s, nI_1]
        obtain ⟨n, rfl⟩ := fuel (show 0 < n by omega)
        obtain ⟨m, rfl⟩ := fuel (show 0 < m by omega)
        rw [loadE_L a4.1 (by omega), fX8_load_L77, if_pos rfl]
        exact ⟨0, I1, J1, rfl, rfl, a5, a6, Or.inr ⟨rfl, a4⟩⟩
end LD
