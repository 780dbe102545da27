/-! ONE STATEMENT OF A SETUP -/
section SM
variable {T : Nat → Nat} {L N i : Nat} {I J : Mem}
/-- what a step of reading ends in -/
def OK (T : Nat → Nat) (L N i : Nat) (I J : Mem) (P : Mem → Mem → Prop) (o : Option Mem) (r : Option (Int32 × Mem)) : Prop :=
  (∃ i' I' J', i < i' ∧ o = some I' ∧ r = some (1, J') ∧ St T L N i' I' J' ∧ P I' J' ∧ gI I I' ∧ gJ J J') ∨
  ∃ I' J', o = some I' ∧ r = some (0, J') ∧ Er I' J' ∧ gI I I' ∧ gJ J J'
theorem EI.wr {k j : Nat} {v : Int32} (h : EI I) (hk : k ≠ 56) : EI (wr I k j v) := h.cg (wr_k (Ne.symm hk)) (wr_k (Ne.symm hk))
theorem into_S (h : St T L N i I J) {a x : Nat} {b : Int32} (ha : a ≤ 1) (hb : b.toInt < 1000000) (hx : x < 574) :
    (∃ v J', i < N ∧ a ≤ v ∧ (v : Int) ≤ b.toInt ∧ v < 2 ^ 24 ∧ fX2_takeNumber (nI a) b I = some (nI v, wr I 56 5 (nI (i + 1))) ∧ fX8_takesInto (nI x) (nI a) b J = some (1, wr J' 309 x (nI v)) ∧ St T L N (i + 1) (wr I 56 5 (nI (i + 1))) (wr J' 309 x (nI v)) ∧ fJ J J') ∨
    ∃ I' J', fX2_takeNumber (nI a) b I = some (nI a, I') ∧ fX8_takesInto (nI x) (nI a) b J = some (0, J') ∧ Er I' J' ∧ fI I I' ∧ fJ J J' := by
  unfold fX8_takesInto
  rcases num_S h ha hb with ⟨v, J', c1, c2, c3, c4, c5, c6, c7, c8, c9⟩ | ⟨I', J', c1, c2, c3, c4, c5⟩
  · left
    rw [c6, ob2_some, if_neg n10, ast_n hx (by omega), ob_s, zbo_1, ob_s, c8]
    exact ⟨v, J', c1, c2, c3, c4, c5, rfl, c7.cg (fun _ _ _ _ => rfl) (fun k j q => wr_n (by omega)), c9⟩
  · right
    rw [c2, ob2_some, if_pos rfl, zbo_0, ob_s]
    exact ⟨I', J', c1, rfl, c3, c4, c5⟩
theorem atS_S (h : St T L N i I J) : fX2_isAtSigned I = some (b2i (decide (kd T L (sg T L i) = 1 ∨ kd T L (sg T L i) = 2))) := by
  have hv := @kd_v T L (sg T L i)
  unfold fX2_isAtSigned
  rw [kind_S h]
  simp only [ob_s, show (nI (kd T L (sg T L i)) = 1) = (kd T L (sg T L i) = 1) from nI_eqP (b := 1) (by omega) (by omega), show (nI (kd T L (sg T L i)) = 2) = (kd T L (sg T L i) = 2) from nI_eqP (b := 2) (by omega) (by omega)]
  by_cases h1 : kd T L (sg T L i) = 1
  · rw [if_pos h1, decide_eq_true (Or.inl h1)]; rfl
  · rw [if_neg h1]
    by_cases h2 : kd T L (sg T L i) = 2
    · rw [if_pos h2, decide_eq_true (Or.inr h2)]; rfl
    · rw [if_neg h2, decide_eq_false (by omega)]; rfl
/-- the class behind the home of a buoy; the reference -/
def rbC (x4 : Int32) (I8 : Mem) : Option Mem :=
  Option.bind (fX2_takeKind (1 : Int32) I8) fun I9 =>
  ob2 (fX2_takeNumber (1 : Int32) (9 : Int32) I9) fun x10 I11 =>
  ob2 (fX2_takeNumber (0 : Int32) (99 : Int32) I11) fun x12 I13 =>
  Option.bind (fX2_isAtSigned I13) fun x14 =>
  ob2 (
      if x14 = 0 then
        some ((0 : Int32), I13)
      else
        ob2 (fX2_takeSigned (99 : Int32) I13) fun x15 I16 =>
        some (x15, I16)) fun x17 I18 =>
  Option.bind (fX0_add 25 x4 x10 x12 x17 I18) fun I19 =>
  some I19
def rbT (x1 : Int32) (J6 : Mem) : Option (Int32 × Mem) :=
        Option.bind (ast J6 309 574 ((12 : Int32) + x1) (J6 306 17)) fun J7 =>
        Option.bind (fX8_advance J7) fun J8 =>
        ob2 (fX8_takesInto ((22 : Int32) + x1) (1 : Int32) (9 : Int32) J8) fun x9 J10 =>
        if x9 = 0 then
          Option.bind (zbo (0 : Int32)) fun v9 =>
          some (v9, J10)
        else
          ob2 (fX8_takesInto ((32 : Int32) + x1) (0 : Int32) (99 : Int32) J10) fun x11 J12 =>
          if x11 = 0 then
            Option.bind (zbo (0 : Int32)) fun v9 =>
            some (v9, J12)
          else
            if (J12 306 13) = (3 : Int32) then
              ob2 (fX8_takesSigned (99 : Int32) J12) fun x13 J14 =>
              if x13 = 0 then
                Option.bind (zbo (0 : Int32)) fun v9 =>
                some (v9, J14)
              else
                Option.bind (ast J14 309 574 ((42 : Int32) + x1) (J14 306 17)) fun J15 =>
                Option.bind (ald J15 309 574 (0 : Int32)) fun x16 =>
                Option.bind (ast J15 309 574 (0 : Int32) (x16 + (1 : Int32))) fun J17 =>
                Option.bind (zbo (1 : Int32)) fun v9 =>
                some (v9, J17)
            else
              if (J12 306 13) = (2 : Int32) then
                ob2 (fX8_takesSigned (99 : Int32) J12) fun x20 J21 =>
                if x20 = 0 then
                  Option.bind (zbo (0 : Int32)) fun v9 =>
                  some (v9, J21)
                else
                  Option.bind (ast J21 309 574 ((42 : Int32) + x1) (J21 306 17)) fun J22 =>
                  Option.bind (ald J22 309 574 (0 : Int32)) fun x23 =>
                  Option.bind (ast J22 309 574 (0 : Int32) (x23 + (1 : Int32))) fun J24 =>
                  Option.bind (zbo (1 : Int32)) fun v9 =>
                  some (v9, J24)
              else
                Option.bind (ald J12 309 574 (0 : Int32)) fun x18 =>
                Option.bind (ast J12 309 574 (0 : Int32) (x18 + (1 : Int32))) fun J19 =>
                Option.bind (zbo (1 : Int32)) fun v9 =>
                some (v9, J19)
def rbD (J14 : Mem) (x1 : Int32) (x13 : Int32) : Option (Int32 × Mem) :=
              if x13 = 0 then
                Option.bind (zbo (0 : Int32)) fun v9 =>
                some (v9, J14)
              else
                Option.bind (ast J14 309 574 ((42 : Int32) + x1) (J14 306 17)) fun J15 =>
                Option.bind (ald J15 309 574 (0 : Int32)) fun x16 =>
                Option.bind (ast J15 309 574 (0 : Int32) (x16 + (1 : Int32))) fun J17 =>
                Option.bind (zbo (1 : Int32)) fun v9 =>
                some (v9, J17)
theorem addE {c : Nat} (hJ : EI I) (hc : I 26 0 = nI c) (h10 : c ≤ 10) (a1 a2 a3 a4 : Int32) : ∃ I', fX0_add 25 a1 a2 a3 a4 I = some I' ∧ gI I I' ∧ ∀ j, I' 56 j = I 56 j := by
  obtain ⟨I', e, f, -⟩ := add_e (b := 25) (a1 := a1) (a2 := a2) (a3 := a3) (a4 := a4) hc h10
  exact ⟨I', e, fun k j q => f k j (by omega), fun j => f 56 j (by omega)⟩
theorem rbC_E {c : Nat} (h : EI I) (hc : I 26 0 = nI c) (h10 : c ≤ 10) (x4 : Int32) : ∃ I', rbC x4 I = some I' ∧ gI I I' ∧ ∀ j, I' 56 j = I 56 j := by
  obtain ⟨b, hb⟩ := atS_E h
  obtain ⟨I', a1, a2, a3⟩ := addE h hc h10 x4 1 0 0
  refine ⟨I', ?_, a2, a3⟩
  unfold rbC
  simp only [take_E h, num_E h, ob_s, ob2_some, hb, sgn_E h, ite_self, a1]
theorem rb_tail {c v : Nat} (h : St T L N i I J) (hD : DR c I J) (hc : c < 10) (h1 : kd T L (sg T L i) = 1) (h17 : J 306 17 = nI v) : OK T L N i I J (fun I' J' => DR (c + 1) I' J' ∧ ∀ j, 3 ≤ j → j ≤ 5 → I' 25 j = I 25 j ∧ J' 309 (j - 2) = J 309 (j - 2)) (rbC (nI v) I) (rbT (nI c) J) := by
  have hN := h.lt h1 (by omega)
  obtain ⟨⟨d1, d2, d3, -⟩, -⟩ := id hD
  unfold rbC rbT
  rw [L12, L22, L32, L42, nI_addn, nI_addn, nI_addn, nI_addn, ast_n (by omega) (by omega), ob_s, h17, show fX2_takeKind 1 I = _ from take_ok (k := 1) h h1 (by omega), ob_s]
  have hS0 : St T L N i I (wr J 309 (12 + c) (nI v)) := h.cg (fun _ _ _ _ => rfl) (fun k j q => wr_n (by omega))
  obtain ⟨J2, e2, hS2, f2⟩ := adv_S hS0 hN
  rw [e2, ob_s]
  rcases into_S hS2 (a := 1) (b := nI 9) (x := 22 + c) (by omega) (by decide) (by omega) with ⟨v2, J3, -, b2, b3, -, c1, c2, hS3, f3⟩ | ⟨I', J', c1, c2, c3, c4, c5⟩
  · rw [show fX2_takeNumber 1 9 (wr I 56 5 (nI (i + 1))) = _ from c1, show fX8_takesInto (nI (22 + c)) 1 9 J2 = _ from c2, ob2_some, ob2_some, if_neg n10]
    rcases into_S hS3 (a := 0) (b := nI 99) (x := 32 + c) (by omega) (by decide) (by omega) with ⟨v3, J4, -, b4, b5, -, c1, c2, hS4, f4⟩ | ⟨I', J', c1, c2, c3, c4, c5⟩
    · rw [show fX2_takeNumber 0 99 _ = _ from c1, show fX8_takesInto (nI (32 + c)) 0 99 _ = _ from c2, ob2_some, ob2_some, if_neg n10]
      rw [show (nI 9).toInt = 9 by decide] at b3
      rw [show (nI 99).toInt = 99 by decide] at b5
      rw [atS_S hS4, ob_s]
      have hw : ∀ y z w : Int32, wr (wr (wr I 56 5 y) 56 5 z) 56 5 w = wr I 56 5 w := fun y z w => by
        funext k j
        by_cases hk : k = 56 ∧ j = 5
        · obtain ⟨rfl, rfl⟩ := hk; rw [wr_s, wr_s]
        · rw [wr_n hk, wr_n hk, wr_n hk, wr_n hk]
      rw [hw] at hS4 ⊢
      -- what the row holds behind these three numbers
      have g309 : ∀ j, ¬ (j = 12 + c ∨ j = 22 + c ∨ j = 32 + c) → (wr J4 309 (32 + c) (nI v3)) 309 j = J 309 j := fun j q => by
        rw [wr_j (by omega), f4 _ _ (by omega), wr_j (by omega), f3 _ _ (by omega), f2 _ _ (by omega), wr_j (by omega)]
      have gv1 : (wr J4 309 (32 + c) (nI v3)) 309 (12 + c) = nI v := by
        rw [wr_j (by omega), f4 _ _ (by omega), wr_j (by omega), f3 _ _ (by omega), f2 _ _ (by omega), wr_s]
      have gv2 : (wr J4 309 (32 + c) (nI v3)) 309 (22 + c) = nI v2 := by
        rw [wr_j (by omega), f4 _ _ (by omega), wr_s]
      have gv3 : (wr J4 309 (32 + c) (nI v3)) 309 (32 + c) = nI v3 := wr_s
      have gg : gJ J (wr J4 309 (32 + c) (nI v3)) := ((((gJ.wr (J := J)).tr f2.g).tr f3.g).tr (gJ.wr.tr f4.g)).tr gJ.wr
      generalize hG : wr J4 309 (32 + c) (nI v3) = G at *
      generalize hi3 : i + 1 + 1 + 1 = i3 at *
      -- the end, once the sign is read
      have fin : ∀ (v4 : Int32) (i' : Nat) (G' : Mem), i < i' → bd (-99) 99 v4 → St T L N i' (wr I 56 5 (nI i')) G' → (∀ j, ¬ (j = 42 + c) → G' 309 j = G 309 j) → G' 309 (42 + c) = v4 → gJ J G' → OK T L N i I J (fun I' J' => DR (c + 1) I' J' ∧ ∀ j, 3 ≤ j → j ≤ 5 → I' 25 j = I 25 j ∧ J' 309 (j - 2) = J 309 (j - 2)) (Option.bind (fX0_add 25 (nI v) (nI v2) (nI v3) v4 (wr I 56 5 (nI i'))) fun I19 => some I19) (Option.bind (ald G' 309 574 (0 : Int32)) fun x16 => Option.bind (ast G' 309 574 (0 : Int32) (x16 + (1 : Int32))) fun J17 => Option.bind (zbo (1 : Int32)) fun v9 => some (v9, J17)) := by
        intro v4 i' G' hi hv4 hS hG1 hG2 hg
        obtain ⟨I', e, a1, a2⟩ := add_e (b := 25) (I := wr I 56 5 (nI i')) (a1 := nI v) (a2 := nI v2) (a3 := nI v3) (a4 := v4) (by rw [wr_k (by omega)]; exact d2) d1
        obtain ⟨a3, a4, a5⟩ := a2 hc
        rw [e, ob_s, ald_0 (by omega) (by omega), ob_s, ast_0 (by omega) (by omega), ob_s, zbo_1, ob_s, hG1 0 (by omega), g309 0 (by omega), d3, nI_1]
        refine Or.inl ⟨i', I', _, hi, rfl, rfl, hS.cg (fun k j q1 q2 => a1 k j (by omega)) (fun k j q => wr_n (by omega)), ⟨hD.add (v := nI v) (v4 := v4) hc (by omega) (by omega) hv4 ⟨a3, a4, fun k j q1 q2 q3 q4 => by rw [a5 k j (by omega) (by omega), wr_k (by omega)]⟩ ⟨⟨wr_s, ?_, ?_, ?_, ?_⟩, fun j q => ?_⟩, fun j q1 q2 => ⟨?_, ?_⟩⟩, fun k j q => ?_, hg.tr gJ.wr⟩
        · rw [wr_j (by omega), hG1 _ (by omega), gv1]
        · rw [wr_j (by omega), hG1 _ (by omega), gv2]
        · rw [wr_j (by omega), hG1 _ (by omega), gv3]
        · rw [wr_j (by omega), hG2]
        · rw [wr_j (by omega), hG1 _ (by omega), g309 _ (by omega)]
        · rw [a1 _ _ (by omega), wr_k (by omega)]
        · rw [wr_j (by omega), hG1 _ (by omega), g309 _ (by omega)]
        · rw [a1 _ _ (by omega), wr_n (by omega)]
      by_cases hs : kd T L (sg T L i3) = 1 ∨ kd T L (sg T L i3) = 2
      · rw [decide_eq_true hs, if_neg (show ¬ b2i true = 0 by decide)]
        have hr : (if G 306 13 = 3 then ob2 (fX8_takesSigned 99 G) fun x13 J14 => rbD J14 (nI c) x13 else if G 306 13 = 2 then ob2 (fX8_takesSigned 99 G) fun x13 J14 => rbD J14 (nI c) x13 else Option.bind (ald G 309 574 (0 : Int32)) fun x18 => Option.bind (ast G 309 574 (0 : Int32) (x18 + (1 : Int32))) fun J19 => Option.bind (zbo (1 : Int32)) fun v9 => some (v9, J19)) = ob2 (fX8_takesSigned 99 G) fun x13 J14 => rbD J14 (nI c) x13 := by
          by_cases h3 : G 306 13 = 3
          · rw [if_pos h3]
          · rw [if_neg h3, if_pos]
            refine (hS4.t13 (k := 2) (by omega)).mpr ?_
            rcases hs with hs | hs
            · exact ((kt_1 _).1).mp hs
            · exact absurd ((hS4.t13 (k := 3) (by omega)).mpr ((kt_2 _).mp hs)) h3
        unfold rbD at hr
        rw [L42, nI_addn] at hr
        rw [hr]
        rcases sgn_S hS4 (m := 99) (by omega) with ⟨v4, i', J', c1, c2, c3, c4, c5, c6, c7, c8⟩ | ⟨v4, I', J', c1, c2, c3, c4, c5⟩
        · rw [show fX2_takeSigned 99 _ = _ from c4, show fX8_takesSigned 99 _ = _ from c5, ob2_some, ob2_some, ob2_some, if_neg n10, ast_n (by omega) (by omega), ob_s, c7]
          have hw2 : wr (wr I 56 5 (nI i3)) 56 5 (nI i') = wr I 56 5 (nI i') := by
            funext k j
            by_cases hk : k = 56 ∧ j = 5
            · obtain ⟨rfl, rfl⟩ := hk; rw [wr_s, wr_s]
            · rw [wr_n hk, wr_n hk, wr_n hk]
          rw [hw2] at c6 ⊢
          exact fin v4 i' _ (by omega) c3 (c6.cg (fun _ _ _ _ => rfl) (fun k j q => wr_n (by omega))) (fun j q => by rw [wr_j q, c8 _ _ (by omega)]) wr_s ((gg.tr c8.g).tr gJ.wr)
        · rw [show fX2_takeSigned 99 _ = _ from c1, show fX8_takesSigned 99 _ = _ from c2, ob2_some, ob2_some, ob2_some, if_pos rfl, zbo_0, ob_s]
          obtain ⟨I2, a1, a2, a3⟩ := addE c3.1 (c := c) (by rw [c4 _ _ (by omega), wr_k (by omega)]; exact d2) d1 (nI v) (nI v2) (nI v3) v4
          rw [a1, ob_s]
          exact Or.inr ⟨I2, J', rfl, rfl, c3.cg a3 (fun _ _ _ => rfl), (fI.wr5.tr c4).g.tr a2, gg.tr c5.g⟩
      · rw [decide_eq_false hs, if_pos (show b2i false = 0 by decide), ob2_some, if_neg (show ¬ G 306 13 = 3 from fun q => hs (Or.inr ((kt_2 _).mpr ((hS4.t13 (k := 3) (by omega)).mp q)))), if_neg (show ¬ G 306 13 = 2 from fun q => hs (Or.inl (((kt_1 _).1).mpr ((hS4.t13 (k := 2) (by omega)).mp q))))]
        exact fin 0 i3 G (by omega) (by unfold bd; decide) hS4 (fun _ _ => rfl) (by rw [g309 _ (by omega)]; exact hD.2.1.2.2.1 c (Nat.le_refl _) hc) gg
    · rw [show fX2_takeNumber 0 99 _ = _ from c1, show fX8_takesInto (nI (32 + c)) 0 99 _ = _ from c2, ob2_some, ob2_some, if_pos rfl, zbo_0, ob_s]
      obtain ⟨b, hb⟩ := atS_E c3.1
      obtain ⟨I2, a1, a2, a3⟩ := addE c3.1 (c := c) (by rw [c4 _ _ (by omega), wr_k (by omega), wr_k (by omega)]; exact d2) d1 (nI v) (nI v2) (nI 0) 0
      simp only [hb, sgn_E c3.1, ob_s, ob2_some, ite_self, a1]
      exact Or.inr ⟨I2, J', rfl, rfl, c3.cg a3 (fun _ _ _ => rfl), ((fI.wr5.tr fI.wr5).tr c4).g.tr a2, ((((gJ.wr (J := J)).tr f2.g).tr f3.g).tr gJ.wr).tr c5.g⟩
  · rw [show fX2_takeNumber 1 9 (wr I 56 5 (nI (i + 1))) = _ from c1, show fX8_takesInto (nI (22 + c)) 1 9 J2 = _ from c2, ob2_some, ob2_some, if_pos rfl, zbo_0, ob_s]
    obtain ⟨b, hb⟩ := atS_E c3.1
    obtain ⟨I2, a1, a2, a3⟩ := addE c3.1 (c := c) (by rw [c4 _ _ (by omega), wr_k (by omega)]; exact d2) d1 (nI v) (nI 1) 0 0
    simp only [num_E c3.1, hb, sgn_E c3.1, ob_s, ob2_some, ite_self, a1]
    exact Or.inr ⟨I2, J', rfl, rfl, c3.cg a3 (fun _ _ _ => rfl), (fI.wr5.tr c4).g.tr a2, ((gJ.wr (J := J)).tr f2.g).tr c5.g⟩
end SM
