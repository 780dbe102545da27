/-! LOAD AS A WHOLE -/
def sgI (I I' : Mem) : Prop := ∀ k j, ¬ (25 ≤ k ∧ k ≤ 48 ∨ 58 ≤ k ∧ k ≤ 64 ∨ k = 56 ∧ 5 ≤ j ∧ j ≤ 7) → I' k j = I k j
def sgJ (J J' : Mem) : Prop := ∀ k j, ¬ (k = 309 ∨ k = 316 ∨ k = 306 ∧ (j = 0 ∨ 11 ≤ j ∧ j ≤ 17 ∨ j = 23 ∨ j = 24)) → J' k j = J k j
theorem sgI.tr {I I1 I2 : Mem} (h1 : sgI I I1) (h2 : sgI I1 I2) : sgI I I2 := fun k j q => (h2 k j q).trans (h1 k j q)
theorem sgJ.tr {J J1 J2 : Mem} (h1 : sgJ J J1) (h2 : sgJ J1 J2) : sgJ J J2 := fun k j q => (h2 k j q).trans (h1 k j q)
theorem gI.s {I I' : Mem} (h : gI I I') : sgI I I' := fun k j q => h k j (by omega)
theorem gJ.s {J J' : Mem} (h : gJ J J') : sgJ J J' := fun k j q => h k j (by omega)
def clo (I : Mem) : Mem := wr (wr (wr I 0 12 (I 56 6)) 0 13 (I 56 7)) 56 1 0
theorem clo_e (I : Mem) : fX7_closeText I = some (b2i (decide (I 56 6 = 0)), clo I) := by
  unfold fX7_closeText
  have e1 : (wr (wr (wr I 0 12 (I 56 6)) 0 13 ((wr I 0 12 (I 56 6)) 56 7)) 56 1 (0 : Int32)) = clo I := by
    unfold clo
    rw [wr_k (by omega)]
  have e2 : clo I 0 12 = I 56 6 := by unfold clo; simp (disch := omega) only [wr_n, wr_s]
  rw [e1, e2, plet_d]
  by_cases h : I 56 6 = 0
  · rw [if_pos h, decide_eq_true h]; rfl
  · rw [if_neg h, decide_eq_false h]; rfl
/-- the text is closed -/
theorem clo_R {E : Nat} {I J I1 J1 : Mem} (hR : RelB E I J) (hI : sgI I I1) (hJ : sgJ J J1) (h6 : I1 56 6 = J1 306 15) (h7 : I1 56 7 = J1 306 16) : RelB E (clo I1) (wr J1 306 10 0) := by
  obtain ⟨hS, hU, hV, hA, hT, hE, hO⟩ := hR
  have fI : ∀ k j, ¬ (25 ≤ k ∧ k ≤ 48 ∨ 58 ≤ k ∧ k ≤ 64 ∨ k = 56) → ¬ (k = 0 ∧ 12 ≤ j ∧ j ≤ 13) → clo I1 k j = I k j := fun k j q1 q2 => by
    unfold clo
    simp (disch := omega) only [wr_n]
    exact hI k j (by omega)
  have fJ : ∀ k j, ¬ (k = 309 ∨ k = 316 ∨ k = 306 ∧ (j = 0 ∨ 10 ≤ j ∧ j ≤ 17 ∨ j = 23 ∨ j = 24)) → (wr J1 306 10 0) k j = J k j := fun k j q => by
    simp (disch := omega) only [wr_n]
    exact hJ k j (by omega)
  refine ⟨hS.cong (Nat.le_refl _) (fun k j h1 h2 => fI _ _ (by omega) (by omega)) (fun j => fJ _ _ (by omega)), hU.cong (Nat.le_refl _) (fun k j h1 h2 => fI _ _ (by omega) (by omega)) (fI _ _ (by omega) (by omega)) (fI _ _ (by omega) (by omega)) (fun j => fJ _ _ (by omega)) (fJ _ _ (by omega)), hV.cong (Nat.le_refl _) (fun k j h1 h2 => fI _ _ (by omega) (by omega)) (fI _ _ (by omega) (by omega)) (fun j => fJ _ _ (by omega)) (fun j => fJ _ _ (by omega)), hA.cong (fun j => fI _ _ (by omega) (by omega)) (fun j => fJ _ _ (by omega)), ⟨0, by omega, ?_, wr_s, fun i hi => by omega⟩, ⟨?_, ?_⟩, hO.cong (fun j => fI _ _ (by omega) (by omega)) (fI _ _ (by omega) (by omega)) (fun j => fJ _ _ (by omega)) (fJ _ _ (by omega))⟩
  · unfold clo; exact wr_s
  · unfold clo
    simp (disch := omega) only [wr_n, wr_s]
    exact h6
  · unfold clo
    simp (disch := omega) only [wr_n, wr_s]
    exact h7
theorem bsl_f {p : Nat → Bool} : ∀ (d j : Nat) (a : Int32), (∀ i, j ≤ i → i < j + d → p i = false) → bsl p j d a = a
  | 0, _, _, _ => rfl
  | d + 1, j, a, h => by
    show bsl p (j + 1) d (if p j then a ||| bit1 j else a) = a
    rw [h j (Nat.le_refl _) (by omega), if_neg (by decide), bsl_f d (j + 1) a (fun i h1 h2 => h i (by omega) (by omega))]
/-- a setup that is read whole -/
theorem DR.ew {c : Nat} {I J : Mem} (h : DR c I J) (hT : DT I J) (h2 : 2 ≤ c) : EW c 0 (wr I 25 10 (I 25 6)) 25 (wr J 309 9 (J 309 4) 309) := by
  obtain ⟨⟨d1, d2, d3, d4, d5, d6⟩, ⟨d7, d8, d9, d10⟩, d11⟩ := h
  obtain ⟨⟨t1, t2, t3⟩, t4, t5, t6⟩ := hT
  have f : ∀ i, i ≠ 9 → wr J 309 9 (J 309 4) 309 i = J 309 i := fun i q => wr_j q
  have f9 : wr J 309 9 (J 309 4) 309 9 = J 309 4 := wr_s
  have g : ∀ k j, ¬ (k = 25 ∧ j = 10) → wr I 25 10 (I 25 6) k j = I k j := fun k j q => wr_n q
  have g10 : wr I 25 10 (I 25 6) 25 10 = I 25 6 := wr_s
  generalize wr J 309 9 (J 309 4) 309 = F at *
  generalize wr I 25 10 (I 25 6) = I' at *
  have z : ∀ i, i < 574 → ¬ (i < 5 ∨ 12 ≤ i ∧ i < 52 ∨ 82 ≤ i ∧ i < 92 ∨ 112 ≤ i ∧ i < 122) → J 309 i = 0 := fun i a b => by
    rw [d8 i a (by omega)]
    unfold empF
    rw [if_neg (by omega), if_neg (by omega)]
  refine ⟨⟨⟨h2, d1, ?_, ?_, ?_, ?_, ?_, ?_⟩, fun j hj => ?_, fun j hj => ?_, fun h k => by unfold kept at k; omega⟩, ⟨?_, ?_, ?_, ?_, ?_, ?_, ?_, ?_, ?_, ?_, ?_, ?_⟩, fun j hj => ?_, fun j hj => ?_, fun h k => by unfold kept at k; omega⟩
  · rw [f _ (by omega)]; exact d3
  · rw [f _ (by omega), z _ (by omega) (by omega)]; rfl
  · rw [f _ (by omega), z _ (by omega) (by omega)]; rfl
  · rw [f _ (by omega)]; exact t4
  · rw [f _ (by omega)]; exact t5
  · rw [f _ (by omega)]; exact t6
  · obtain ⟨-, -, b1, b2, b3⟩ := d11 j hj
    rw [f (22 + j) (by omega), f (32 + j) (by omega), f (42 + j) (by omega), f (52 + j) (by omega), f (92 + j) (by omega), f (102 + j) (by omega), z (52 + j) (by omega) (by omega), z (92 + j) (by omega) (by omega), z (102 + j) (by omega) (by omega)]
    exact ⟨b1, b2, b3, by unfold bd; decide, Or.inl rfl, by unfold bd; decide⟩
  · rw [f _ (by omega), z _ (by omega) (by omega)]
    exact Or.inl rfl
  · rw [g _ _ (by omega)]; exact d2
  · rw [g _ _ (by omega), f _ (by omega)]; exact t1
  · rw [g _ _ (by omega), f _ (by omega)]; exact t2
  · rw [g _ _ (by omega), f _ (by omega)]; exact t3
  · rw [g _ _ (by omega), f _ (by omega)]; exact d7
  · rw [g _ _ (by omega), f _ (by omega), d6 7 (by omega) (by omega), z _ (by omega) (by omega)]
  · rw [g _ _ (by omega), f _ (by omega), d6 8 (by omega) (by omega), z _ (by omega) (by omega)]
  · rw [g _ _ (by omega), f _ (by omega), d6 9 (by omega) (by omega), z _ (by omega) (by omega)]
  · rw [g10, f9]; exact d7
  · rw [g _ _ (by omega), f _ (by omega), d6 11 (by omega) (by omega), z _ (by omega) (by omega)]
  · rw [g _ _ (by omega), bsl_f _ _ _ (fun i h1 h3 => by unfold broB; rw [f _ (by omega), z _ (by omega) (by omega)]; decide)]
    exact d5
  · rw [g _ _ (by omega), bsl_f _ _ _ (fun i h1 h3 => by unfold hasB; rw [f _ (by omega), z _ (by omega) (by omega)]; decide)]
    exact d4
  · obtain ⟨⟨a1, a2, a3, a4⟩, ⟨a5, a6, a7, a8, a9⟩, -⟩ := d11 j hj
    rw [g 27 j (by omega), g 28 j (by omega), g 29 j (by omega), g 30 j (by omega), g 31 j (by omega), g 32 j (by omega), g 33 j (by omega), g 34 j (by omega), g 35 j (by omega), f (12 + j) (by omega), f (22 + j) (by omega), f (32 + j) (by omega), f (42 + j) (by omega), f (52 + j) (by omega), f (62 + j) (by omega), f (72 + j) (by omega), f (82 + j) (by omega), f (102 + j) (by omega), z (52 + j) (by omega) (by omega), z (62 + j) (by omega) (by omega), z (72 + j) (by omega) (by omega), z (102 + j) (by omega) (by omega), d8 (82 + j) (by omega) (by omega)]
    refine ⟨a1, a2, a3, a4, a5, a6, a7, ?_, a9⟩
    rw [a8]
    unfold empF
    rw [if_pos (by omega)]
  · obtain ⟨a1, a2⟩ := d10 j (by omega)
    rw [g 37 j (by omega), g 38 j (by omega), f (112 + j) (by omega), f (122 + j) (by omega), z (122 + j) (by omega) (by omega)]
    exact ⟨a1, a2⟩
/-- the class behind the terms -/
def rs4 (I9 : Mem) : Option Mem :=
  Option.bind (fX2_takeKind (3 : Int32) I9) fun I10 =>
  Option.bind (fX7_readSetup_L85 zF (0 : Int32) I10) fun I21 =>
  Option.bind (
      if (2 : Int32) ≤ (I21 26 0) then
        some I21
      else
        Option.bind (fX2_fail (5 : Int32) I21) fun I22 =>
        some I22) fun I23 =>
  some I23
theorem rs4_E {I : Mem} (h : EI I) : rs4 I = some I := by
  unfold rs4
  rw [take_E h, ob_s, show fX7_readSetup_L85 zF 0 I = _ from loadE_L (x := 0) (n := 3999) h (by omega), ob_s, fail_E h]
  simp only [ob_s, ite_self]
/-- what load ends in: both are refused -/
theorem load_no {E : Nat} {I J I1 J1 : Mem} (hR : RelB E I J) (hI : sgI I I1) (hJ : sgJ J J1) (hE : Er I1 J1) : RelB E (clo I1) (wr J1 306 10 0) ∧ (fX7_closeText I1 = some (0, clo I1)) := by
  refine ⟨clo_R hR hI hJ hE.2.1 hE.2.2, ?_⟩
  rw [clo_e, decide_eq_false hE.1.2]
  rfl
theorem load_z {n : Nat} {J : Mem} (hn : 0 < n) : fX8_load_L77 n 0 J = some (0, J) := by
  obtain ⟨n, rfl⟩ := fuel hn
  rw [fX8_load_L77, if_pos rfl]
def cl1 (I3 : Mem) (x2 : Int32) : Option (Int32 × Mem) :=
  if x2 = 0 then
    some ((-1 : Int32), I3)
  else
    Option.bind (fX5_copyFrom 1 25 (wr I3 25 10 (I3 25 6))) fun I4 =>
    some (((wr I4 0 3 (0 : Int32)) 2 0), (wr I4 0 3 (0 : Int32)))
theorem load7 {I I1 : Mem} (h : fX7_readSetup I = some I1) : fX7_load I = cl1 (clo I1) (b2i (decide (I1 56 6 = 0))) := by
  unfold fX7_load
  rw [h, ob_s, clo_e]
  rfl
def rl1 (J28 : Mem) (x27 : Int32) : Option (Int32 × Mem) :=
  if x27 = 0 then
    some ((-1 : Int32), (wr J28 306 10 (0 : Int32)))
  else
    Option.bind (ald (wr J28 306 10 (0 : Int32)) 309 574 (4 : Int32)) fun x29 =>
    Option.bind (ast (wr J28 306 10 (0 : Int32)) 309 574 (9 : Int32) x29) fun J30 =>
    Option.bind (fX8_copies 309 307 (0 : Int32) (0 : Int32) J30) fun J31 =>
    Option.bind (ald (wr J31 306 8 (0 : Int32)) 307 574 (0 : Int32)) fun x32 =>
    some (x32, (wr J31 306 8 (0 : Int32)))
def rl0 (x14 : Int32) (J15 : Mem) : Option (Int32 × Mem) :=
  ob2 (fX8_load_L77 zF x14 J15) fun x22 J23 =>
  ob2 (
      if x22 = 0 then
        some ((0 : Int32), J23)
      else
        Option.bind (ald J23 309 574 (0 : Int32)) fun x24 =>
        if (1 : Int32) < x24 then
          some ((1 : Int32), J23)
        else
          ob2 (fX8_fails (5 : Int32) J23) fun x25 J26 =>
          if x25 = 0 then
            some ((0 : Int32), J26)
          else
            some ((1 : Int32), J26)) fun x27 J28 =>
  rl1 J28 x27
theorem rl0_z (J : Mem) : rl0 0 J = some (-1, wr J 306 10 0) := by
  unfold rl0
  rw [load_z (show 0 < zF by decide), ob2_some, if_pos rfl, ob2_some]
  unfold rl1
  rw [if_pos rfl]
/-- load, when the setup is read whole -/
theorem load_ok {E c : Nat} {I J I1 J1 : Mem} (hR : RelB E I J) (hI : sgI I I1) (hJ : sgJ J J1) (h6 : I1 56 6 = 0) (h7 : I1 56 7 = -1) (g6 : J1 306 15 = 0) (g7 : J1 306 16 = -1) (hD : DR c I1 J1) (hT : DT I1 J1) (h2 : 2 ≤ c) : ∃ r Iq Jq, cl1 (clo I1) (b2i (decide (I1 56 6 = 0))) = some (r, Iq) ∧ rl1 J1 1 = some (r, Jq) ∧ RelB E Iq Jq := by
  have hR2 := clo_R hR hI hJ (h6.trans g6.symm) (h7.trans g7.symm)
  have hD2 : DR c (clo I1) (wr J1 306 10 0) := hD.cg (fun k j q1 q2 q3 => by unfold clo; simp (disch := omega) only [wr_k]) (fun j q => wr_k (by omega))
  have hT2 : DT (clo I1) (wr J1 306 10 0) := hT.cg (fun j q1 q2 => by unfold clo; simp (disch := omega) only [wr_k]) (fun j q1 q2 => wr_k (by omega))
  have hW := hD2.ew hT2 h2
  unfold cl1 rl1
  generalize clo I1 = I3 at *
  generalize wr J1 306 10 0 = J3 at *
  rw [decide_eq_true h6, if_neg (show ¬ b2i true = 0 by decide), if_neg n10]
  obtain ⟨I4, e4, p1, p2⟩ := cp_e (I := wr I3 25 10 (I3 25 6)) (b := 1) (b1 := 25) (by omega)
  rw [e4, ob_s, L4, ald_n (by omega) (by omega), ob_s, L9, ast_n (by omega) (by omega), ob_s, show fX8_copies 309 307 0 0 (wr J3 309 9 (J3 309 4)) = _ from cps_e (o1 := 0) (o2 := 0) zl309 zl307 (by omega) (by omega) ⟨by omega, by omega⟩ (by omega), ob_s, ald_0 (by omega) (by omega), ob_s]
  have f307 : ∀ j, j < 574 → (wr (cpy (wr J3 309 9 (J3 309 4)) 309 0 307 0 574) 306 8 0) 307 j = wr J3 309 9 (J3 309 4) 309 j := fun j hj => by
    rw [wr_k (by omega), cpy_at (by omega), Nat.zero_add, Nat.sub_zero]
  have hW2 : EW c 0 (wr I4 0 3 0) 1 ((wr (cpy (wr J3 309 9 (J3 309 4)) 309 0 307 0 574) 306 8 0) 307) := hW.cong (fun k j hr => by rw [wr_k (by omega)]; exact p1 k j hr) f307
  have fI : ∀ k j, ¬ (1 ≤ k ∧ k < 49) → ¬ (k = 0 ∧ j = 3) → (wr I4 0 3 0) k j = I3 k j := fun k j q1 q2 => by
    rw [wr_n q2, p2 k j (by omega), wr_k (by omega)]
  have fJ : ∀ k j, k ≠ 307 → k ≠ 309 → ¬ (k = 306 ∧ j = 8) → (wr (cpy (wr J3 309 9 (J3 309 4)) 309 0 307 0 574) 306 8 0) k j = J3 k j := fun k j q1 q2 q3 => by
    rw [wr_n q3, cpy_ne (by omega), wr_k q2]
  obtain ⟨hS, ⟨u, p, u1, u2, u3, u4, u5, u6⟩, hV, hA, hT, hE, hO⟩ := hR2
  refine ⟨(wr I4 0 3 0) 2 0, _, _, rfl, ?_, ⟨c, 0, Nat.zero_le _, hW2⟩, ⟨0, p, by omega, u2, wr_s, ?_, wr_s, fun i hi => by omega⟩, hV.cong (Nat.le_refl _) (fun k j h1 h2 => fI _ _ (by omega) (by omega)) (fI _ _ (by omega) (by omega)) (fun j => fJ _ _ (by omega) (by omega) (by omega)) (fun j => fJ _ _ (by omega) (by omega) (by omega)), hA.cong (fun j => fI _ _ (by omega) (by omega)) (fun j => fJ _ _ (by omega) (by omega) (by omega)), hT.cong (fun j => fI _ _ (by omega) (by omega)) (fI _ _ (by omega) (by omega)) (fun j => fJ _ _ (by omega) (by omega) (by omega)) (fJ _ _ (by omega) (by omega) (by omega)), hE.cong (fI _ _ (by omega) (by omega)) (fI _ _ (by omega) (by omega)) (fJ _ _ (by omega) (by omega) (by omega)) (fJ _ _ (by omega) (by omega) (by omega)), hO.cong (fun j => fI _ _ (by omega) (by omega)) (fI _ _ (by omega) (by omega)) (fun j => fJ _ _ (by omega) (by omega) (by omega)) (fJ _ _ (by omega) (by omega) (by omega))⟩
  · rw [show (wr (cpy (wr J3 309 9 (J3 309 4)) 309 0 307 0 574) 306 8 0) 307 0 = nI c from hW2.1.1.2.2.1, show (wr I4 0 3 0) 2 0 = nI c from hW2.2.1.1]
  · rw [fI _ _ (by omega) (by omega)]; exact u4
/-- behind the terms -/
theorem load_4 {T : Nat → Nat} {L N i E : Nat} {I J I1 J1 : Mem} (hR : RelB E I J) (hI : sgI I I1) (hJ : sgJ J J1) (h : St T L N i I1 J1) (hD : DR 0 I1 J1) (hT : DT I1 J1) : ∃ I2 r Iq Jq, rs4 I1 = some I2 ∧ cl1 (clo I2) (b2i (decide (I2 56 6 = 0))) = some (r, Iq) ∧ (ob2 (ob2 (fX8_stop J1) fun x12 J13 => if x12 = 0 then some ((0 : Int32), J13) else some ((1 : Int32), J13)) fun x14 J15 => rl0 x14 J15) = some (r, Jq) ∧ RelB E Iq Jq := by
  have hN5 := h.N5
  have no : ∀ I2 J2, Er I2 J2 → sgI I I2 → sgJ J J2 → ∃ r Iq Jq, cl1 (clo I2) (b2i (decide (I2 56 6 = 0))) = some (r, Iq) ∧ some ((-1 : Int32), wr J2 306 10 (0 : Int32)) = some (r, Jq) ∧ RelB E Iq Jq := fun I2 J2 hE s1 s2 => by
    obtain ⟨a1, a2⟩ := load_no hR s1 s2 hE
    refine ⟨-1, _, _, ?_, rfl, a1⟩
    unfold cl1
    rw [decide_eq_false hE.1.2, if_pos (show b2i false = 0 by decide)]
  unfold rs4
  rcases stop_S h with ⟨J2, b1, b2, b3, b4, b5⟩ | ⟨I2, J2, b2, b3, b4, b5, b6⟩
  · rw [b2, b3, ob_s, ob2_some, if_neg n10, ob2_some]
    have hD2 : DR 0 (wr I1 56 5 (nI (i + 1))) J2 := hD.cg (fun k j q1 q2 q3 => wr_k (by omega)) (fun j q => b5 _ _ (by omega))
    have hT2 : DT (wr I1 56 5 (nI (i + 1))) J2 := hT.cg (fun j q1 q2 => wr_k (by omega)) (fun j q1 q2 => b5 _ _ (by omega))
    obtain ⟨ok, I', J', c1, c2, c3, c4, c5⟩ := load_L (N - (i + 1)) 0 zF zF (i + 1) 0 _ _ rfl (Nat.zero_le _) (zF_g (by omega)) (zF_g (by omega)) b4 hD2
    unfold rl0
    rw [show fX7_readSetup_L85 zF 0 _ = _ from c1, ob_s, c2, ob2_some]
    have s1 : sgI I I' := hI.tr (fI.wr5.g.tr c3).s
    have s2 : sgJ J J' := hJ.tr (b5.g.tr c4).s
    rcases c5 with ⟨rfl, c6, ⟨c, c7⟩, c8⟩ | ⟨rfl, c6⟩
    · obtain ⟨⟨d1, d2, d3, -⟩, -⟩ := id c7
      rw [if_neg n10, ald_0 (by omega) (by omega), ob_s, d2, d3]
      by_cases hc : 2 ≤ c
      · rw [if_pos (show (2 : Int32) ≤ nI c from show nI 2 ≤ nI c by rw [nI_leP (by omega) (by omega)]; omega), if_pos (show (1 : Int32) < nI c from show nI 1 < nI c by rw [nI_ltP (by omega) (by omega)]; omega), ob_s, ob2_some]
        obtain ⟨r, Iq, Jq, e1, e2, e3⟩ := load_ok hR s1 s2 c6.2.1.2.1 c6.2.1.2.2.1 c6.2.1.2.2.2.1 c6.2.1.2.2.2.2 c7 (hT2.cg (fun j q1 q2 => (c8 j q1 q2).1) (fun j q1 q2 => (c8 (j + 2) (by omega) (by omega)).2)) hc
        exact ⟨I', r, Iq, Jq, rfl, e1, e2, e3⟩
      · rw [if_neg (show ¬ (2 : Int32) ≤ nI c from show ¬ nI 2 ≤ nI c by rw [nI_leP (by omega) (by omega)]; omega), if_neg (show ¬ (1 : Int32) < nI c from show ¬ nI 1 < nI c by rw [nI_ltP (by omega) (by omega)]; omega)]
        obtain ⟨I2, J2, f1, f2, f3, f4, f5⟩ := fails_S c6 (c := 5) (by omega) (by omega)
        rw [show fX2_fail 5 I' = _ from f1, ob_s, ob_s, show fX8_fails 5 J' = _ from f2, ob2_some, if_pos rfl, ob2_some]
        obtain ⟨r, Iq, Jq, e1, e2, e3⟩ := no I2 J2 f3 (s1.tr f4.g.s) (s2.tr f5.g.s)
        exact ⟨I2, r, Iq, Jq, rfl, e1, e2, e3⟩
    · rw [if_pos rfl, ob2_some, fail_E c6.1]
      simp only [ob_s, ite_self]
      obtain ⟨r, Iq, Jq, e1, e2, e3⟩ := no I' J' c6 s1 s2
      exact ⟨I', r, Iq, Jq, rfl, e1, e2, e3⟩
  · rw [show (Option.bind (fX2_takeKind 3 I1) fun I10 => Option.bind (fX7_readSetup_L85 zF 0 I10) fun I21 => Option.bind (if (2 : Int32) ≤ I21 26 0 then some I21 else Option.bind (fX2_fail 5 I21) fun I22 => some I22) fun I23 => some I23) = some I2 from by
      have := rs4_E b4.1
      unfold rs4 at this
      rw [take_E b4.1, ob_s] at this
      rw [b2, ob_s]
      exact this, b3, ob2_some, if_pos rfl, ob2_some, rl0_z]
    obtain ⟨r, Iq, Jq, e1, e2, e3⟩ := no I2 J2 b4 (hI.tr b5.g.s) (hJ.tr b6.g.s)
    exact ⟨I2, r, Iq, Jq, rfl, e1, e2, e3⟩
