/-! THE RELATION AT THE START -/
def sh (I : Mem) : Mem := fun k j => I (k - 24) j
def shJ (J : Mem) : Mem := fun k j => J (k - 2) j
theorem layb_e {x : Nat} (hx : x < 10) (a2 a3 a4 a5 : Int32) (J : Mem) : fX8_lays 307 (nI x) a2 a3 a4 a5 J = some (wr (wr (wr (wr J 307 (12 + x) a2) 307 (22 + x) a3) 307 (32 + x) a4) 307 (42 + x) a5) := by
  unfold fX8_lays
  rw [zl307, L12, L22, L32, L42, nI_addn, nI_addn, nI_addn, nI_addn, ast_n (by omega) (by omega), ob_s, ast_n (by omega) (by omega), ob_s, ast_n (by omega) (by omega), ob_s, ast_n (by omega) (by omega), ob_s]
theorem init_D {I1 I2 I3 J5 : Mem} {c : Nat} {v : Int32} (hD : DR c (sh I1) (shJ J5)) (hc : c < 10)
    (a1 : (I2 (1 + 1) 0 = nI (c + 1) ∧ I2 (1 + 2) c = v ∧ I2 (1 + 3) c = 1 ∧ I2 (1 + 4) c = 9 ∧ I2 (1 + 5) c = 0) ∧ (I2 (1 + 6) c = 0 ∧ I2 (1 + 7) c = 0 ∧ I2 (1 + 8) c = 0 ∧ I2 (1 + 9) c = -1 ∧ I2 (1 + 10) c = 0) ∧ ∀ k j, ¬ (k = 1 + 1 ∧ j = 0) → ¬ (1 + 2 ≤ k ∧ k ≤ 1 + 10 ∧ j = c) → I2 k j = I1 k j) :
    DR (c + 1) (sh I2) (shJ (wr (wr (wr (wr (wr J5 307 (12 + c) v) 307 (22 + c) 1) 307 (32 + c) 9) 307 (42 + c) 0) 307 0 (nI (c + 1)))) := by
  obtain ⟨⟨b1, b2, b3, b4, b5⟩, ⟨b6, b7, b8, b9, b10⟩, b11⟩ := a1
  refine hD.add (v := v) (v2 := 1) (v3 := 9) (v4 := 0) hc (by omega) (by omega) (by unfold bd; decide) ⟨⟨b1, b2, b3, b4, b5⟩, ⟨b6, b7, b8, b9, b10⟩, fun k j q1 q2 q3 q4 => b11 _ _ (by omega) (by omega)⟩ ⟨⟨wr_s, ?_, ?_, ?_, ?_⟩, fun j q => ?_⟩
  · show wr _ 307 0 _ 307 (12 + c) = v
    simp (disch := omega) only [wr_n, wr_s]
  · show wr _ 307 0 _ 307 (22 + c) = nI 1
    simp (disch := omega) only [wr_n, wr_s]
    rfl
  · show wr _ 307 0 _ 307 (32 + c) = nI 9
    simp (disch := omega) only [wr_n, wr_s]
    rfl
  · show wr _ 307 0 _ 307 (42 + c) = 0
    simp (disch := omega) only [wr_n, wr_s]
  · show wr _ 307 0 _ 307 j = J5 307 j
    simp (disch := omega) only [wr_n]
theorem DR.cgJ {c : Nat} {I J J' : Mem} (h : DR c I J) (hJ : ∀ j, J' 309 j = J 309 j) : DR c I J' := h.cg (fun _ _ _ _ _ => rfl) (fun j _ => hJ j)
theorem init_R : ∃ Iq Jq, fX7_initT mem0 = some Iq ∧ fX8_initT mem0 = some Jq ∧ Rel 0 Iq Jq := by
  obtain ⟨I1, e1, k1, k2, k3, k4, k5, k6, k7, k8, k9⟩ := clear_e (b := 1) (I := mem0)
  obtain ⟨J1, e2, p1, p2⟩ := emp_e (k0 := 307) (J := mem0) zl307
  have hD0 : DR 0 (sh (wr (wr (wr I1 1 3 20) 1 4 3) 1 5 2)) (shJ (wr (wr (wr J1 307 1 20) 307 2 3) 307 3 2)) := by
    refine ⟨⟨by omega, ?_, ?_, ?_, ?_, fun j a b => ?_⟩, ⟨?_, fun i a b => ?_, fun j a b => ?_, fun j a => ?_⟩, fun j a => by omega⟩
    · show wr _ 1 5 2 2 0 = nI 0
      simp (disch := omega) only [wr_n]; exact k2
    · show wr _ 307 3 2 307 0 = nI 0
      simp (disch := omega) only [wr_n]
      rw [p2 _ (by omega)]; rfl
    · show wr _ 1 5 2 2 1 = 0
      simp (disch := omega) only [wr_n]; exact k3
    · show wr _ 1 5 2 12 0 = 0
      simp (disch := omega) only [wr_n]; exact k5
    · show wr _ 1 5 2 1 j = 0
      simp (disch := omega) only [wr_n]; exact k9 j (by omega) b
    · show wr _ 1 5 2 1 6 = wr _ 307 3 2 307 4
      simp (disch := omega) only [wr_n]
      rw [p2 _ (by omega)]; exact k9 6 (by omega) (by omega)
    · show wr _ 307 3 2 307 i = empF i
      simp (disch := omega) only [wr_n]; exact p2 i a
    · show wr _ 307 3 2 307 (42 + j) = 0
      simp (disch := omega) only [wr_n]
      rw [p2 _ (by omega)]
      unfold empF
      rw [if_neg (by omega), if_neg (by omega)]
    · show wr _ 1 5 2 13 j = wr _ 307 3 2 307 (112 + j) ∧ wr _ 1 5 2 14 j = 0
      simp (disch := omega) only [wr_n]
      rw [p2 _ (by omega)]
      refine ⟨?_, (k4 j a).2.2⟩
      unfold empF
      rw [if_neg (by omega), if_pos (by omega)]
      exact (k4 j a).2.1
  have i0 : (wr (wr (wr I1 1 3 20) 1 4 3) 1 5 2) (1 + 1) 0 = nI 0 := by
    simp (disch := omega) only [wr_n]; exact k2
  have fI1 : ∀ k j, ¬ (1 ≤ k ∧ k < 25) → (wr (wr (wr I1 1 3 20) 1 4 3) 1 5 2) k j = mem0 k j := fun k j q => by
    simp (disch := omega) only [wr_n]; exact k1 k j (by omega)
  have t3 : (wr (wr (wr I1 1 3 20) 1 4 3) 1 5 2) 1 3 = 20 := by simp (disch := omega) only [wr_n, wr_s]
  have t4 : (wr (wr (wr I1 1 3 20) 1 4 3) 1 5 2) 1 4 = 3 := by simp (disch := omega) only [wr_n, wr_s]
  have t5 : (wr (wr (wr I1 1 3 20) 1 4 3) 1 5 2) 1 5 = 2 := by simp (disch := omega) only [wr_n, wr_s]
  have t6 : (wr (wr (wr I1 1 3 20) 1 4 3) 1 5 2) 1 6 = 0 ∧ (wr (wr (wr I1 1 3 20) 1 4 3) 1 5 2) 1 10 = 0 := by
    simp (disch := omega) only [wr_n]; exact ⟨k9 6 (by omega) (by omega), k9 10 (by omega) (by omega)⟩
  have u9 : (wr (wr (wr J1 307 1 20) 307 2 3) 307 3 2) 307 9 = 0 ∧ (wr (wr (wr J1 307 1 20) 307 2 3) 307 3 2) 307 4 = 0 := by
    simp (disch := omega) only [wr_n]
    exact ⟨by rw [p2 _ (by omega)]; rfl, by rw [p2 _ (by omega)]; rfl⟩
  have u1 : (wr (wr (wr J1 307 1 20) 307 2 3) 307 3 2) 307 1 = 20 ∧ (wr (wr (wr J1 307 1 20) 307 2 3) 307 3 2) 307 2 = 3 ∧ (wr (wr (wr J1 307 1 20) 307 2 3) 307 3 2) 307 3 = 2 := by
    simp (disch := omega) only [wr_n, wr_s]
    trivial
  have fJ1 : ∀ k j, k ≠ 307 → (wr (wr (wr J1 307 1 20) 307 2 3) 307 3 2) k j = mem0 k j := fun k j q => by
    simp (disch := omega) only [wr_n]; exact p1 k j q
  have eJ : fX8_initT mem0 = some (wr (wr (wr (wr (wr (wr (wr (wr (wr (wr (wr (wr J1 307 0 2) 307 1 20) 307 2 3) 307 3 2) 307 (12 + 0) 0) 307 (22 + 0) 1) 307 (32 + 0) 9) 307 (42 + 0) 0) 307 (12 + 1) 100) 307 (22 + 1) 1) 307 (32 + 1) 9) 307 (42 + 1) 0) := by
    unfold fX8_initT
    rw [e2, ob_s, ast_0 (by omega) (by omega), ob_s, show ast (wr J1 307 0 2) 307 574 1 20 = _ from ast_n (j := 1) (by omega) (by omega), ob_s, show ast _ 307 574 2 3 = _ from ast_n (j := 2) (by omega) (by omega), ob_s, show ast _ 307 574 3 2 = _ from ast_n (j := 3) (by omega) (by omega), ob_s, show fX8_lays 307 0 0 1 9 0 _ = _ from layb_e (x := 0) (by omega) 0 1 9 0 _, ob_s, show fX8_lays 307 1 100 1 9 0 _ = _ from layb_e (x := 1) (by omega) 100 1 9 0 _, ob_s]
  have eI : fX7_initT mem0 = Option.bind (fX0_add 1 0 1 9 0 (wr (wr (wr I1 1 3 20) 1 4 3) 1 5 2)) fun I2 => Option.bind (fX0_add 1 100 1 9 0 I2) fun I3 => some I3 := by
    unfold fX7_initT
    rw [e1, ob_s]
  generalize wr (wr (wr I1 1 3 20) 1 4 3) 1 5 2 = Ia at *
  have hJ0 : ∀ j, (wr (wr (wr (wr (wr (wr (wr (wr (wr (wr (wr (wr J1 307 0 2) 307 1 20) 307 2 3) 307 3 2) 307 (12 + 0) 0) 307 (22 + 0) 1) 307 (32 + 0) 9) 307 (42 + 0) 0) 307 (12 + 1) 100) 307 (22 + 1) 1) 307 (32 + 1) 9) 307 (42 + 1) 0) 307 j = (wr (wr (wr (wr (wr (wr (wr (wr (wr (wr (wr (wr (wr J1 307 1 20) 307 2 3) 307 3 2) 307 (12 + 0) 0) 307 (22 + 0) 1) 307 (32 + 0) 9) 307 (42 + 0) 0) 307 0 (nI (0 + 1))) 307 (12 + 1) 100) 307 (22 + 1) 1) 307 (32 + 1) 9) 307 (42 + 1) 0) 307 0 (nI (1 + 1))) 307 j := fun j => by
    by_cases h0 : j = 0
    · subst h0
      simp (disch := omega) only [wr_n, wr_s]
      rfl
    · simp only [wr, h0, and_false, if_false]
  have hJk : ∀ k j, k ≠ 307 → (wr (wr (wr (wr (wr (wr (wr (wr (wr (wr (wr (wr J1 307 0 2) 307 1 20) 307 2 3) 307 3 2) 307 (12 + 0) 0) 307 (22 + 0) 1) 307 (32 + 0) 9) 307 (42 + 0) 0) 307 (12 + 1) 100) 307 (22 + 1) 1) 307 (32 + 1) 9) 307 (42 + 1) 0) k j = mem0 k j := fun k j q => by
    simp (disch := omega) only [wr_n]
    exact p1 k j q
  have hJ5 : ∀ j, ¬ (j = 0 ∨ 12 ≤ j ∧ j < 52) → (wr (wr (wr (wr (wr (wr (wr (wr (wr (wr (wr (wr J1 307 0 2) 307 1 20) 307 2 3) 307 3 2) 307 (12 + 0) 0) 307 (22 + 0) 1) 307 (32 + 0) 9) 307 (42 + 0) 0) 307 (12 + 1) 100) 307 (22 + 1) 1) 307 (32 + 1) 9) 307 (42 + 1) 0) 307 j = (wr (wr (wr J1 307 1 20) 307 2 3) 307 3 2) 307 j := fun j q => by
    rw [hJ0]
    simp (disch := omega) only [wr_n (k := 307) (j := 0), wr_n (k := 307) (j := 12 + 0), wr_n (k := 307) (j := 22 + 0), wr_n (k := 307) (j := 32 + 0), wr_n (k := 307) (j := 42 + 0), wr_n (k := 307) (j := 12 + 1), wr_n (k := 307) (j := 22 + 1), wr_n (k := 307) (j := 32 + 1), wr_n (k := 307) (j := 42 + 1)]
  generalize wr (wr (wr (wr (wr (wr (wr (wr (wr (wr (wr (wr J1 307 0 2) 307 1 20) 307 2 3) 307 3 2) 307 (12 + 0) 0) 307 (22 + 0) 1) 307 (32 + 0) 9) 307 (42 + 0) 0) 307 (12 + 1) 100) 307 (22 + 1) 1) 307 (32 + 1) 9) 307 (42 + 1) 0 = Jq at *
  generalize wr (wr (wr J1 307 1 20) 307 2 3) 307 3 2 = Ja at *
  obtain ⟨I2, a1, a2, a3⟩ := add_e (b := 1) (a1 := 0) (a2 := 1) (a3 := 9) (a4 := 0) i0 (by omega)
  have hD1 := init_D (v := 0) (I3 := I2) hD0 (by omega) (a3 (by omega))
  obtain ⟨I3, c1, c2, c3⟩ := add_e (b := 1) (c := 1) (I := I2) (a1 := 100) (a2 := 1) (a3 := 9) (a4 := 0) (a3 (by omega)).1.1 (by omega)
  have hD2 := init_D (v := 100) (I3 := I3) hD1 (by omega) (c3 (by omega))
  have hD : DR 2 (sh I3) (shJ Jq) := hD2.cgJ (fun j => hJ0 j)
  rw [a1, ob_s, c1, ob_s] at eI
  have fI : ∀ k j, ¬ (2 ≤ k ∧ k ≤ 11) → I3 k j = Ia k j := fun k j q => by rw [c2 k j (by omega), a2 k j (by omega)]
  have fI0 : ∀ k j, ¬ (1 ≤ k ∧ k < 25) → I3 k j = mem0 k j := fun k j q => by rw [fI k j (by omega), fI1 k j q]
  have hT : DT (sh I3) (shJ Jq) := by
    have g1 : shJ Jq 309 1 = 20 := (hJ5 1 (by omega)).trans u1.1
    have g2 : shJ Jq 309 2 = 3 := (hJ5 2 (by omega)).trans u1.2.1
    have g3 : shJ Jq 309 3 = 2 := (hJ5 3 (by omega)).trans u1.2.2
    unfold DT
    rw [g1, g2, g3]
    refine ⟨⟨?_, ?_, ?_⟩, ?_, ?_, ?_⟩
    · show I3 1 3 = 20
      rw [fI _ _ (by omega)]; exact t3
    · show I3 1 4 = 3
      rw [fI _ _ (by omega)]; exact t4
    · show I3 1 5 = 2
      rw [fI _ _ (by omega)]; exact t5
    · unfold bd; decide
    · unfold bd; decide
    · unfold bd; decide
  have hW : EW 2 0 I3 1 (Jq 307) := by
    refine (hD.ew hT (by omega)).cong (b' := 1) (I' := I3) (F' := Jq 307) (fun k j hr => ?_) (fun i hi => ?_)
    · by_cases h : 25 + k = 25 ∧ j = 10
      · obtain ⟨h1, rfl⟩ := h
        have : k = 0 := by omega
        subst this
        rw [wr_s]
        show I3 1 10 = I3 1 6
        rw [fI _ _ (by omega), fI _ _ (by omega), t6.1, t6.2]
      · rw [wr_n h]
        show I3 (1 + k) j = I3 (25 + k - 24) j
        rw [show 25 + k - 24 = 1 + k by omega]
    · by_cases h : i = 9
      · subst h
        rw [wr_s]
        show Jq 307 9 = Jq 307 4
        rw [hJ5 _ (by omega), hJ5 _ (by omega), u9.1, u9.2]
      · rw [wr_j h]
        rfl
  refine ⟨I3, Jq, eI, eJ, ⟨2, 0, by omega, hW⟩, ⟨0, 0, by omega, by omega, ?_, ?_, ?_, fun i hi => by omega⟩, fun i hi => ?_, fun i hi => ?_, ⟨0, by omega, ?_, ?_, fun i hi => by omega⟩, ⟨?_, ?_⟩, ⟨0, by omega, ?_, ?_, fun i hi => by omega⟩⟩
  · rw [fI0 _ _ (by omega)]; decide +kernel
  · rw [fI0 _ _ (by omega)]; decide +kernel
  · rw [hJk _ _ (by omega)]; decide +kernel
  · have h0 : I3 0 6 = 0 := by rw [fI0 _ _ (by omega)]; decide +kernel
    have h1 : ∀ i, i < 2 → mem0 312 i = 0 := by decide +kernel
    rw [h0, hJk _ _ (by omega), h1 i hi, b_0]
    exact ⟨by decide, Or.inl rfl, fun q => absurd q (by decide)⟩
  · have h1 : ∀ i, i < 5 → mem0 51 i = mem0 313 i := by decide +kernel
    rw [fI0 _ _ (by omega), hJk _ _ (by omega)]; exact h1 i hi
  · rw [fI0 _ _ (by omega)]; decide +kernel
  · rw [hJk _ _ (by omega)]; decide +kernel
  · rw [fI0 _ _ (by omega), hJk _ _ (by omega)]; decide +kernel
  · rw [fI0 _ _ (by omega), hJk _ _ (by omega)]; decide +kernel
  · rw [fI0 _ _ (by omega)]; decide +kernel
  · rw [hJk _ _ (by omega)]; decide +kernel
