/-! LOAD: THE TERMS, AND ALL -/
def rs3 (I7 : Mem) : Option Mem := ob2 (fX2_takeNumber (1 : Int32) (9 : Int32) I7) fun x8 I9 => rs4 (wr I9 25 5 x8)
def rs2 (I5 : Mem) : Option Mem := ob2 (fX2_takeNumber (1 : Int32) (9 : Int32) I5) fun x6 I7 => rs3 (wr I7 25 4 x6)
def rs1 (I3 : Mem) : Option Mem := ob2 (fX2_takeNumber (0 : Int32) (999 : Int32) I3) fun x4 I5 => rs2 (wr I5 25 3 x4)
def rt3 (J9 : Mem) : Option (Int32 × Mem) := ob2 (fX8_takesInto (3 : Int32) (1 : Int32) (9 : Int32) J9) fun x10 J11 =>
            if x10 = 0 then
              some ((0 : Int32), J11)
            else
              ob2 (fX8_stop J11) fun x12 J13 =>
              if x12 = 0 then
                some ((0 : Int32), J13)
              else
                some ((1 : Int32), J13)
def rt2 (J7 : Mem) : Option (Int32 × Mem) := ob2 (fX8_takesInto (2 : Int32) (1 : Int32) (9 : Int32) J7) fun x8 J9 => if x8 = 0 then some ((0 : Int32), J9) else rt3 J9
def rt1 (J5 : Mem) : Option (Int32 × Mem) := ob2 (fX8_takesInto (1 : Int32) (0 : Int32) (999 : Int32) J5) fun x6 J7 => if x6 = 0 then some ((0 : Int32), J7) else rt2 J7
theorem rs3_E {I : Mem} (h : EI I) : rs3 I = some (wr I 25 5 1) := by
  unfold rs3
  rw [num_E h, ob2_some, rs4_E (h.wr (by omega))]
theorem rs2_E {I : Mem} (h : EI I) : rs2 I = some (wr (wr I 25 4 1) 25 5 1) := by
  unfold rs2
  rw [num_E h, ob2_some, rs3_E (h.wr (by omega))]
theorem rs1_E {I : Mem} (h : EI I) : rs1 I = some (wr (wr (wr I 25 3 0) 25 4 1) 25 5 1) := by
  unfold rs1
  rw [num_E h, ob2_some, rs2_E (h.wr (by omega))]
def LDS (E : Nat) (o : Option Mem) (r : Option (Int32 × Mem)) : Prop := ∃ I2 rr Iq Jq, o = some I2 ∧ cl1 (clo I2) (b2i (decide (I2 56 6 = 0))) = some (rr, Iq) ∧ (ob2 r fun x14 J15 => rl0 x14 J15) = some (rr, Jq) ∧ RelB E Iq Jq
theorem LDS.no {E : Nat} {I J I2 J2 : Mem} (hR : RelB E I J) (s1 : sgI I I2) (s2 : sgJ J J2) (hE : Er I2 J2) : LDS E (some I2) (some (0, J2)) := by
  obtain ⟨a1, a2⟩ := load_no hR s1 s2 hE
  refine ⟨I2, -1, _, _, rfl, ?_, by rw [ob2_some, rl0_z], a1⟩
  unfold cl1
  rw [decide_eq_false hE.1.2, if_pos (show b2i false = 0 by decide)]
theorem Er.wI {I J : Mem} {k j : Nat} {v : Int32} (h : Er I J) (hk : k ≠ 56) : Er (wr I k j v) J := h.cg (fun j => wr_k (Ne.symm hk)) (fun _ _ _ => rfl)
section TM
variable {T : Nat → Nat} {L N i E : Nat} {I J I1 J1 : Mem}
theorem term_3 (hR : RelB E I J) (hI : sgI I I1) (hJ : sgJ J J1) (h : St T L N i I1 J1) (hD : DR 0 I1 J1) (ha : I1 25 3 = J1 309 1 ∧ I1 25 4 = J1 309 2) (hb : bd 0 999 (J1 309 1) ∧ bd 1 9 (J1 309 2)) : LDS E (rs3 I1) (rt3 J1) := by
  unfold rs3 rt3
  rcases into_S h (a := 1) (b := nI 9) (x := 3) (by omega) (by decide) (by omega) with ⟨v, J3, -, b1, b2, b3, c1, c2, hS, f3⟩ | ⟨I', J', c1, c2, c3, c4, c5⟩
  · rw [show fX2_takeNumber 1 9 I1 = _ from c1, show fX8_takesInto 3 1 9 J1 = _ from c2, ob2_some, ob2_some, if_neg n10]
    rw [show (nI 9).toInt = 9 by decide] at b2
    refine load_4 hR (hI.tr (fI.wr5.g.tr (gI.wr (by omega))).s) (hJ.tr (f3.g.tr gJ.wr).s) (hS.cg (fun k j q1 q2 => wr_k (by omega)) (fun _ _ _ => rfl)) (hD.cg (fun k j q1 q2 q3 => ?_) (fun j q => ?_)) ⟨⟨?_, ?_, ?_⟩, ?_, ?_, ?_⟩
    · rw [wr_n (by omega), wr_k (by omega)]
    · rw [wr_j (by omega), f3 _ _ (by omega)]
    · rw [wr_j (by omega), wr_k (by omega), wr_j (by omega), f3 _ _ (by omega)]; exact ha.1
    · rw [wr_j (by omega), wr_k (by omega), wr_j (by omega), f3 _ _ (by omega)]; exact ha.2
    · rw [wr_s, wr_s]
    · rw [wr_j (by omega), f3 _ _ (by omega)]; exact hb.1
    · rw [wr_j (by omega), f3 _ _ (by omega)]; exact hb.2
    · rw [wr_s]; unfold bd; rw [nI_toInt (by omega)]; omega
  · rw [show fX2_takeNumber 1 9 I1 = _ from c1, show fX8_takesInto 3 1 9 J1 = _ from c2, ob2_some, ob2_some, if_pos rfl, rs4_E (c3.1.wr (by omega))]
    exact LDS.no hR (hI.tr (c4.g.tr (gI.wr (by omega))).s) (hJ.tr c5.g.s) (c3.wI (by omega))
theorem term_2 (hR : RelB E I J) (hI : sgI I I1) (hJ : sgJ J J1) (h : St T L N i I1 J1) (hD : DR 0 I1 J1) (ha : I1 25 3 = J1 309 1) (hb : bd 0 999 (J1 309 1)) : LDS E (rs2 I1) (rt2 J1) := by
  unfold rs2 rt2
  rcases into_S h (a := 1) (b := nI 9) (x := 2) (by omega) (by decide) (by omega) with ⟨v, J3, -, b1, b2, b3, c1, c2, hS, f3⟩ | ⟨I', J', c1, c2, c3, c4, c5⟩
  · rw [show fX2_takeNumber 1 9 I1 = _ from c1, show fX8_takesInto 2 1 9 J1 = _ from c2, ob2_some, ob2_some, if_neg n10]
    rw [show (nI 9).toInt = 9 by decide] at b2
    refine term_3 hR (hI.tr (fI.wr5.g.tr (gI.wr (by omega))).s) (hJ.tr (f3.g.tr gJ.wr).s) (hS.cg (fun k j q1 q2 => wr_k (by omega)) (fun _ _ _ => rfl)) (hD.cg (fun k j q1 q2 q3 => ?_) (fun j q => ?_)) ⟨?_, ?_⟩ ⟨?_, ?_⟩
    · rw [wr_n (by omega), wr_k (by omega)]
    · rw [wr_j (by omega), f3 _ _ (by omega)]
    · rw [wr_j (by omega), wr_k (by omega), wr_j (by omega), f3 _ _ (by omega)]; exact ha
    · rw [wr_s, wr_s]
    · rw [wr_j (by omega), f3 _ _ (by omega)]; exact hb
    · rw [wr_s]; unfold bd; rw [nI_toInt (by omega)]; omega
  · rw [show fX2_takeNumber 1 9 I1 = _ from c1, show fX8_takesInto 2 1 9 J1 = _ from c2, ob2_some, ob2_some, if_pos rfl, rs3_E (c3.1.wr (by omega))]
    exact LDS.no hR (hI.tr ((c4.g.tr (gI.wr (by omega))).tr (gI.wr (by omega))).s) (hJ.tr c5.g.s) ((c3.wI (by omega)).wI (by omega))
theorem term_1 (hR : RelB E I J) (hI : sgI I I1) (hJ : sgJ J J1) (h : St T L N i I1 J1) (hD : DR 0 I1 J1) : LDS E (rs1 I1) (rt1 J1) := by
  unfold rs1 rt1
  rcases into_S h (a := 0) (b := nI 999) (x := 1) (by omega) (by decide) (by omega) with ⟨v, J3, -, b1, b2, b3, c1, c2, hS, f3⟩ | ⟨I', J', c1, c2, c3, c4, c5⟩
  · rw [show fX2_takeNumber 0 999 I1 = _ from c1, show fX8_takesInto 1 0 999 J1 = _ from c2, ob2_some, ob2_some, if_neg n10]
    rw [show (nI 999).toInt = 999 by decide] at b2
    refine term_2 hR (hI.tr (fI.wr5.g.tr (gI.wr (by omega))).s) (hJ.tr (f3.g.tr gJ.wr).s) (hS.cg (fun k j q1 q2 => wr_k (by omega)) (fun _ _ _ => rfl)) (hD.cg (fun k j q1 q2 q3 => ?_) (fun j q => ?_)) ?_ ?_
    · rw [wr_n (by omega), wr_k (by omega)]
    · rw [wr_j (by omega), f3 _ _ (by omega)]
    · rw [wr_s, wr_s]
    · rw [wr_s]; unfold bd; rw [nI_toInt (by omega)]; omega
  · rw [show fX2_takeNumber 0 999 I1 = _ from c1, show fX8_takesInto 1 0 999 J1 = _ from c2, ob2_some, ob2_some, if_pos rfl, rs2_E (c3.1.wr (by omega))]
    exact LDS.no hR (hI.tr (((c4.g.tr (gI.wr (by omega))).tr (gI.wr (by omega))).tr (gI.wr (by omega))).s) (hJ.tr c5.g.s) (((c3.wI (by omega)).wI (by omega)).wI (by omega))
end TM
theorem q_1 : eqP_1 Rel := by
  intro n I J hn hR _
  obtain ⟨T, L, hX⟩ := hR.2.2.2.2.1.tx
  have hX0 : TX T L I (wr J 306 0 0) := ⟨hX.1, hX.2.1, by rw [wr_n (by omega)]; exact hX.2.2.1, fun i hi => by rw [wr_n (by omega)]; exact hX.2.2.2 i hi⟩
  obtain ⟨Ic, ec, k1, k2, k3, k4, k5, k6, k7, k8, k9⟩ := clear_e (b := 25) (I := I)
  have hXc : TX T L Ic (wr J 306 0 0) := ⟨hX.1, by rw [k1 _ _ (by omega)]; exact hX.2.1, hX0.2.2.1, fun i hi => by rw [k1 _ _ (by omega)]; exact hX0.2.2.2 i hi⟩
  obtain ⟨N, I1, J1, e1, e2, hS, f1, f2⟩ := begin_S hXc
  obtain ⟨J2, e3, p1, p2⟩ := emp_e (k0 := 309) (J := J1) zl309
  have hS2 : St T L N 0 I1 J2 := hS.cg (fun _ _ _ _ => rfl) (fun k j q => p1 _ _ (by omega))
  have s1 : sgI I I1 := fun k j q => by rw [f1 k j (by omega) (by omega), k1 k j (by omega)]
  have s2 : sgJ J J2 := fun k j q => by rw [p1 k j (by omega), f2 k j (by omega), wr_n (by omega)]
  have hD : DR 0 I1 J2 := by
    refine ⟨⟨by omega, ?_, ?_, ?_, ?_, fun j a b => ?_⟩, ⟨?_, fun i a b => p2 i a, fun j a b => ?_, fun j a => ?_⟩, fun j a => by omega⟩
    · rw [f1 _ _ (by omega) (by omega)]; exact k2
    · rw [p2 _ (by omega)]; rfl
    · rw [f1 _ _ (by omega) (by omega)]; exact k3
    · rw [f1 _ _ (by omega) (by omega)]; exact k5
    · rw [f1 _ _ (by omega) (by omega)]; exact k9 j (by omega) b
    · rw [f1 _ _ (by omega) (by omega), p2 _ (by omega)]; exact k9 6 (by omega) (by omega)
    · rw [p2 _ (by omega)]
      unfold empF
      rw [if_neg (by omega), if_neg (by omega)]
    · rw [f1 _ _ (by omega) (by omega), f1 _ _ (by omega) (by omega), p2 _ (by omega)]
      refine ⟨?_, (k4 j a).2.2⟩
      unfold empF
      rw [if_neg (by omega), if_pos (by omega)]
      exact (k4 j a).2.1
  have hcls : fX7_readSetup I = Option.bind (fX2_takeKind (7 : Int32) I1) rs1 := by
    unfold fX7_readSetup
    rw [ec, ob_s, e1, ob_s]
    rfl
  have href : fX8_load J = ob2 (ob2 (fX8_starts 1 (b2i (decide (kd T L (sg T L 0) = 7))) J2) fun x4 J5 => if x4 = 0 then some ((0 : Int32), J5) else rt1 J5) fun x14 J15 => rl0 x14 J15 := by
    unfold fX8_load
    rw [e2, ob_s, e3, ob_s, word_S hS2 (w := 0) (by omega), ob_s]
    have hz : ∀ (o : Option (Int32 × Mem)) (f : Int32 → Mem → Option (Int32 × Mem)) (g : Int32 → Mem → Option (Int32 × Mem)), ob2 o (fun x J => ob2 (f x J) g) = ob2 (ob2 o f) g := fun o f g => by
      cases o <;> rfl
    exact hz _ _ _
  have fin : LDS (7 * n) (Option.bind (fX2_takeKind (7 : Int32) I1) rs1) (ob2 (fX8_starts 1 (b2i (decide (kd T L (sg T L 0) = 7))) J2) fun x4 J5 => if x4 = 0 then some ((0 : Int32), J5) else rt1 J5) := by
    unfold fX8_starts
    by_cases h7 : kd T L (sg T L 0) = 7
    · have hN := hS2.lt h7 (by omega)
      obtain ⟨J3, a1, a2, a3⟩ := adv_S hS2 hN
      rw [show fX2_takeKind 7 I1 = _ from take_ok (k := 7) hS2 h7 (by omega), ob_s, decide_eq_true h7, if_neg (show ¬ b2i true = 0 by decide), a1, ob_s, zbo_1, ob_s, ob2_some, if_neg n10]
      exact term_1 hR (s1.tr fI.wr5.g.s) (s2.tr a3.g.s) a2 (hD.cg (fun k j q1 q2 q3 => wr_k (by omega)) (fun j q => a3 _ _ (by omega)))
    · obtain ⟨I2, J3, b1, b2, b3, b4, b5⟩ := fails_S hS2 (c := 1) (by omega) (by omega)
      rw [show fX2_takeKind 7 I1 = _ from take_no (k := 7) hS2 h7 (by omega) b1 b3.1, ob_s, decide_eq_false h7, if_pos (show b2i false = 0 by decide), show fX8_fails 1 J2 = _ from b2, ob2_some, zbo_0, ob_s, ob2_some, if_pos rfl, rs1_E b3.1]
      exact LDS.no hR (s1.tr (((b4.g.tr (gI.wr (by omega))).tr (gI.wr (by omega))).tr (gI.wr (by omega))).s) (s2.tr b5.g.s) (((b3.wI (by omega)).wI (by omega)).wI (by omega))
  obtain ⟨I2, rr, Iq, Jq, g1, g2, g3, g4⟩ := fin
  rw [← hcls] at g1
  refine ⟨rr, Iq, Jq, ?_, href.trans g3, RelB.cong (by omega) (fun _ _ _ => rfl) (fun _ _ _ => rfl) g4⟩
  rw [load7 g1]
  exact g2
