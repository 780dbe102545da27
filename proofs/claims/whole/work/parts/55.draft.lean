/-! A SETUP IS READ INTO THE DRAFT -/
def gI (I I' : Mem) : Prop := ∀ k j, ¬ (25 ≤ k ∧ k ≤ 48 ∨ k = 56 ∧ 5 ≤ j ∧ j ≤ 7) → I' k j = I k j
def gJ (J J' : Mem) : Prop := ∀ k j, ¬ (k = 309 ∨ k = 306 ∧ 11 ≤ j ∧ j ≤ 17) → J' k j = J k j
theorem gI.rf {I : Mem} : gI I I := fun _ _ _ => rfl
theorem gJ.rf {J : Mem} : gJ J J := fun _ _ _ => rfl
theorem gI.tr {I I1 I2 : Mem} (h1 : gI I I1) (h2 : gI I1 I2) : gI I I2 := fun k j q => (h2 k j q).trans (h1 k j q)
theorem gJ.tr {J J1 J2 : Mem} (h1 : gJ J J1) (h2 : gJ J1 J2) : gJ J J2 := fun k j q => (h2 k j q).trans (h1 k j q)
theorem fI.g {I I' : Mem} (h : fI I I') : gI I I' := fun k j q => h k j (by omega)
theorem fJ.g {J J' : Mem} (h : fJ J J') : gJ J J' := fun k j q => h k j (by omega)
theorem gI.wr {I : Mem} {k j : Nat} {v : Int32} (h : 25 ≤ k ∧ k ≤ 48) : gI I (wr I k j v) := fun k j q => wr_n (by omega)
theorem gJ.wr {J : Mem} {j : Nat} {v : Int32} : gJ J (wr J 309 j v) := fun k j q => wr_n (by omega)
/-- an empty row of the reference -/
def empF (i : Nat) : Int32 := if 82 ≤ i ∧ i < 92 then -1 else if 112 ≤ i ∧ i < 122 then 10 else 0
theorem emp_L2 {k0 : Nat} (l0 : zb_ln k0 = 574) : ∀ (d a n : Nat) (J : Mem), a + d = 574 → d < n → ∃ J', fX8_empties_L2 k0 n (nI a) J = some J' ∧ (∀ k j, k ≠ k0 → J' k j = J k j) ∧ (∀ j, j < a → J' k0 j = J k0 j) ∧ ∀ j, a ≤ j → j < 574 → J' k0 j = 0 := by
  intro d
  induction d with
  | zero =>
    intro a n J ha hn
    obtain ⟨n, rfl⟩ := fuel hn
    rw [fX8_empties_L2, L574, if_pos (by rw [nI_leP (by omega) (by omega)]; omega)]
    exact ⟨J, rfl, fun _ _ _ => rfl, fun _ _ => rfl, fun j h1 h2 => by omega⟩
  | succ d ih =>
    intro a n J ha hn
    obtain ⟨n, rfl⟩ := fuel hn
    rw [fX8_empties_L2, L574, if_neg (by rw [nI_leP (by omega) (by omega)]; omega), l0, ast_n (by omega) (by omega), ob_s, nI_1]
    obtain ⟨J', e, f1, f2, f3⟩ := ih (a + 1) n (wr J k0 a 0) (by omega) (by omega)
    refine ⟨J', e, fun k j q => (f1 k j q).trans (wr_k q), fun j hj => (f2 j (by omega)).trans (wr_j (by omega)), fun j h1 h2 => ?_⟩
    by_cases hj : j = a
    · subst hj; rw [f2 j (by omega), wr_s]
    · exact f3 j (by omega) h2
theorem emp_L21 {k0 : Nat} (l0 : zb_ln k0 = 574) : ∀ (d a n : Nat) (J : Mem), a + d = 10 → d < n → ∃ J', fX8_empties_L21 k0 n (nI a) J = some J' ∧ (∀ k j, k ≠ k0 → J' k j = J k j) ∧ (∀ j, ¬ (82 + a ≤ j ∧ j < 92 ∨ 112 + a ≤ j ∧ j < 122) → J' k0 j = J k0 j) ∧ (∀ j, 82 + a ≤ j → j < 92 → J' k0 j = -1) ∧ ∀ j, 112 + a ≤ j → j < 122 → J' k0 j = 10 := by
  intro d
  induction d with
  | zero =>
    intro a n J ha hn
    obtain ⟨n, rfl⟩ := fuel hn
    rw [fX8_empties_L21, L10, if_pos (by rw [nI_leP (by omega) (by omega)]; omega)]
    exact ⟨J, rfl, fun _ _ _ => rfl, fun _ _ => rfl, fun j h1 h2 => by omega, fun j h1 h2 => by omega⟩
  | succ d ih =>
    intro a n J ha hn
    obtain ⟨n, rfl⟩ := fuel hn
    rw [fX8_empties_L21, L10, if_neg (by rw [nI_leP (by omega) (by omega)]; omega), l0, L82, nI_addn, ast_n (by omega) (by omega), ob_s, L112, nI_addn, ast_n (by omega) (by omega), ob_s, nI_1]
    obtain ⟨J', e, f1, f2, f3, f4⟩ := ih (a + 1) n (wr (wr J k0 (82 + a) (-1)) k0 (112 + a) (nI 10)) (by omega) (by omega)
    refine ⟨J', e, fun k j q => ?_, fun j hj => ?_, fun j h1 h2 => ?_, fun j h1 h2 => ?_⟩
    · rw [f1 k j q, wr_k q, wr_k q]
    · rw [f2 j (by omega), wr_j (by omega), wr_j (by omega)]
    · by_cases hj : j = 82 + a
      · subst hj; rw [f2 _ (by omega), wr_j (by omega), wr_s]
      · exact f3 j (by omega) h2
    · by_cases hj : j = 112 + a
      · subst hj; rw [f2 _ (by omega), wr_s]
      · exact f4 j (by omega) h2
theorem emp_e {k0 : Nat} {J : Mem} (l0 : zb_ln k0 = 574) : ∃ J', fX8_empties k0 J = some J' ∧ (∀ k j, k ≠ k0 → J' k j = J k j) ∧ ∀ j, j < 574 → J' k0 j = empF j := by
  unfold fX8_empties
  obtain ⟨J1, e1, a1, a2, a3⟩ := emp_L2 l0 574 0 zF J (by omega) (zF_g (by omega))
  obtain ⟨J2, e2, b1, b2, b3, b4⟩ := emp_L21 l0 10 0 zF J1 (by omega) (zF_g (by omega))
  rw [show fX8_empties_L2 k0 zF 0 J = _ from e1, ob_s, show fX8_empties_L21 k0 zF 0 J1 = _ from e2, ob_s]
  refine ⟨J2, rfl, fun k j q => (b1 k j q).trans (a1 k j q), fun j hj => ?_⟩
  unfold empF
  by_cases h1 : 82 ≤ j ∧ j < 92
  · rw [if_pos h1]; exact b3 j (by omega) (by omega)
  · rw [if_neg h1]
    by_cases h2 : 112 ≤ j ∧ j < 122
    · rw [if_pos h2]; exact b4 j (by omega) (by omega)
    · rw [if_neg h2, b2 j (by omega), a3 j (by omega) hj]
/-- the draft and the row that is made: c buoys -/
def DR (c : Nat) (I J : Mem) : Prop :=
  (c ≤ 10 ∧ I 26 0 = nI c ∧ J 309 0 = nI c ∧ I 26 1 = 0 ∧ I 36 0 = 0 ∧ ∀ j, 7 ≤ j → j ≤ 11 → I 25 j = 0) ∧
  (I 25 6 = J 309 4 ∧ (∀ i, i < 574 → ¬ (i < 5 ∨ 12 ≤ i ∧ i < 52 ∨ 112 ≤ i ∧ i < 122) → J 309 i = empF i) ∧ (∀ j, c ≤ j → j < 10 → J 309 (42 + j) = 0) ∧ ∀ j, j < 10 → I 37 j = J 309 (112 + j) ∧ I 38 j = 0) ∧
  ∀ j, j < c → (I 27 j = J 309 (12 + j) ∧ I 28 j = J 309 (22 + j) ∧ I 29 j = J 309 (32 + j) ∧ I 30 j = J 309 (42 + j)) ∧ (I 31 j = 0 ∧ I 32 j = 0 ∧ I 33 j = 0 ∧ I 34 j = -1 ∧ I 35 j = 0) ∧ bd 1 9 (J 309 (22 + j)) ∧ bd 0 99 (J 309 (32 + j)) ∧ bd (-99) 99 (J 309 (42 + j))
/-- the terms -/
def DT (I J : Mem) : Prop := (I 25 3 = J 309 1 ∧ I 25 4 = J 309 2 ∧ I 25 5 = J 309 3) ∧ bd 0 999 (J 309 1) ∧ bd 1 9 (J 309 2) ∧ bd 1 9 (J 309 3)
theorem DT.cg {I I' J J' : Mem} (hI : ∀ j, 3 ≤ j → j ≤ 5 → I' 25 j = I 25 j) (hJ : ∀ j, 1 ≤ j → j ≤ 3 → J' 309 j = J 309 j) (h : DT I J) : DT I' J' := by
  unfold DT
  rw [hI 3 (by omega) (by omega), hI 4 (by omega) (by omega), hI 5 (by omega) (by omega), hJ 1 (by omega) (by omega), hJ 2 (by omega) (by omega), hJ 3 (by omega) (by omega)]
  exact h
theorem DR.cg {c : Nat} {I I' J J' : Mem} (hI : ∀ k j, 25 ≤ k → k ≤ 48 → ¬ (k = 25 ∧ 3 ≤ j ∧ j ≤ 5) → I' k j = I k j) (hJ : ∀ j, ¬ (1 ≤ j ∧ j ≤ 3) → J' 309 j = J 309 j) (h : DR c I J) : DR c I' J' := by
  obtain ⟨⟨h1, h2, h3, h4, h5, h6⟩, ⟨h7, h8, h9, h10⟩, h11⟩ := h
  refine ⟨⟨h1, ?_, ?_, ?_, ?_, fun j a b => ?_⟩, ⟨?_, fun i a b => ?_, fun j a b => ?_, fun j a => ?_⟩, fun j a => ?_⟩
  · rw [hI _ _ (by omega) (by omega) (by omega)]; exact h2
  · rw [hJ _ (by omega)]; exact h3
  · rw [hI _ _ (by omega) (by omega) (by omega)]; exact h4
  · rw [hI _ _ (by omega) (by omega) (by omega)]; exact h5
  · rw [hI _ _ (by omega) (by omega) (by omega)]; exact h6 j a b
  · rw [hI _ _ (by omega) (by omega) (by omega), hJ _ (by omega)]; exact h7
  · rw [hJ _ (by omega)]; exact h8 i a b
  · rw [hJ _ (by omega)]; exact h9 j a b
  · rw [hI 37 _ (by omega) (by omega) (by omega), hI 38 _ (by omega) (by omega) (by omega), hJ _ (by omega)]; exact h10 j a
  · rw [hI 27 _ (by omega) (by omega) (by omega), hI 28 _ (by omega) (by omega) (by omega), hI 29 _ (by omega) (by omega) (by omega), hI 30 _ (by omega) (by omega) (by omega), hI 31 _ (by omega) (by omega) (by omega), hI 32 _ (by omega) (by omega) (by omega), hI 33 _ (by omega) (by omega) (by omega), hI 34 _ (by omega) (by omega) (by omega), hI 35 _ (by omega) (by omega) (by omega), hJ (12 + j) (by omega), hJ (22 + j) (by omega), hJ (32 + j) (by omega), hJ (42 + j) (by omega)]; exact h11 j a
theorem fgt_L {b : Nat} : ∀ (d a n : Nat) (I : Mem), a + d = 10 → d < n → ∃ I', fX0_forgetReports_L7 b n (nI a) I = some I' ∧ (∀ k j, k ≠ b + 10 → I' k j = I k j) ∧ (∀ j, j < a → I' (b + 10) j = I (b + 10) j) ∧ ∀ j, a ≤ j → j < 10 → I' (b + 10) j = 0 := by
  intro d
  induction d with
  | zero =>
    intro a n I ha hn
    obtain ⟨n, rfl⟩ := fuel hn
    rw [fX0_forgetReports_L7, L10, if_pos (by rw [nI_leP (by omega) (by omega)]; omega)]
    exact ⟨I, rfl, fun _ _ _ => rfl, fun _ _ => rfl, fun j h1 h2 => by omega⟩
  | succ d ih =>
    intro a n I ha hn
    obtain ⟨n, rfl⟩ := fuel hn
    rw [fX0_forgetReports_L7, if_neg (show ¬ (10 : Int32) ≤ nI a from show ¬ nI 10 ≤ nI a by rw [nI_leP (by omega) (by omega)]; omega), ast_n (by omega) (by omega), ob_s, nI_1]
    obtain ⟨I', e, f1, f2, f3⟩ := ih (a + 1) n (wr I (b + 10) a 0) (by omega) (by omega)
    refine ⟨I', e, fun k j q => (f1 k j q).trans (wr_k q), fun j hj => (f2 j (by omega)).trans (wr_j (by omega)), fun j h1 h2 => ?_⟩
    by_cases hj : j = a
    · subst hj; rw [f2 j (by omega), wr_s]
    · exact f3 j (by omega) h2
theorem clr_L {b : Nat} : ∀ (d a n : Nat) (I : Mem), a + d = 10 → d < n → ∃ I', fX3_clear_L7 b n (nI a) I = some I' ∧ (∀ k j, k ≠ b + 12 → k ≠ b + 13 → I' k j = I k j) ∧ (∀ j, j < a → I' (b + 12) j = I (b + 12) j ∧ I' (b + 13) j = I (b + 13) j) ∧ ∀ j, a ≤ j → j < 10 → I' (b + 12) j = 10 ∧ I' (b + 13) j = 0 := by
  intro d
  induction d with
  | zero =>
    intro a n I ha hn
    obtain ⟨n, rfl⟩ := fuel hn
    rw [fX3_clear_L7, L10, if_pos (by rw [nI_leP (by omega) (by omega)]; omega)]
    exact ⟨I, rfl, fun _ _ _ _ => rfl, fun _ _ => ⟨rfl, rfl⟩, fun j h1 h2 => by omega⟩
  | succ d ih =>
    intro a n I ha hn
    obtain ⟨n, rfl⟩ := fuel hn
    rw [fX3_clear_L7, if_neg (show ¬ (10 : Int32) ≤ nI a from show ¬ nI 10 ≤ nI a by rw [nI_leP (by omega) (by omega)]; omega), ast_n (by omega) (by omega), ob_s, ast_n (by omega) (by omega), ob_s, nI_1]
    obtain ⟨I', e, f1, f2, f3⟩ := ih (a + 1) n (wr (wr I (b + 12) a 10) (b + 13) a 0) (by omega) (by omega)
    refine ⟨I', e, fun k j q1 q2 => ?_, fun j hj => ?_, fun j h1 h2 => ?_⟩
    · rw [f1 k j q1 q2, wr_k q2, wr_k q1]
    · rw [(f2 j (by omega)).1, (f2 j (by omega)).2]
      simp (disch := omega) only [wr_k, wr_j]
      trivial
    · by_cases hj : j = a
      · subst hj
        rw [(f2 j (by omega)).1, (f2 j (by omega)).2]
        simp (disch := omega) only [wr_k, wr_s]
        trivial
      · exact f3 j (by omega) h2
theorem clear_e {b : Nat} {I : Mem} : ∃ I', fX5_clear b I = some I' ∧ (∀ k j, ¬ (b ≤ k ∧ k < b + 24) → I' k j = I k j) ∧ I' (b + 1) 0 = 0 ∧ I' (b + 1) 1 = 0 ∧ (∀ j, j < 10 → I' (b + 10) j = 0 ∧ I' (b + 12) j = 10 ∧ I' (b + 13) j = 0) ∧ I' (b + 11) 0 = 0 ∧ I' b 3 = 0 ∧ I' b 4 = 1 ∧ I' b 5 = 1 ∧ ∀ j, 6 ≤ j → j ≤ 11 → I' b j = 0 := by
  unfold fX5_clear fX0_forgetReports fX3_clear
  obtain ⟨I1, e1, a1, -, a3⟩ := fgt_L (b := b) 10 0 zF (wr (wr I (b + 1) 0 0) (b + 1) 1 0) (by omega) (zF_g (by omega))
  obtain ⟨I2, e2, b1, -, b3⟩ := clr_L (b := b) 10 0 zF (wr I1 (b + 11) 0 0) (by omega) (zF_g (by omega))
  rw [show fX0_forgetReports_L7 b zF 0 (wr (wr I (b + 1) 0 0) (b + 1) 1 0) = _ from e1, ob_s, ob_s, show fX3_clear_L7 b zF 0 (wr I1 (b + 11) 0 0) = _ from e2, ob_s, ob_s]
  refine ⟨_, rfl, fun k j q => ?_, ?_, ?_, fun j hj => ⟨?_, ?_, ?_⟩, ?_, ?_, ?_, ?_, fun j h1 h2 => ?_⟩
  · simp (disch := omega) only [wr_n]
    rw [b1 _ _ (by omega) (by omega)]
    simp (disch := omega) only [wr_n]
    rw [a1 _ _ (by omega)]
    simp (disch := omega) only [wr_n]
  · simp (disch := omega) only [wr_n]
    rw [b1 _ _ (by omega) (by omega)]
    simp (disch := omega) only [wr_n]
    rw [a1 _ _ (by omega)]
    simp (disch := omega) only [wr_n, wr_s]
  · simp (disch := omega) only [wr_n]
    rw [b1 _ _ (by omega) (by omega)]
    simp (disch := omega) only [wr_n]
    rw [a1 _ _ (by omega)]
    simp (disch := omega) only [wr_n, wr_s]
  · simp (disch := omega) only [wr_n]
    rw [b1 _ _ (by omega) (by omega)]
    simp (disch := omega) only [wr_n]
    exact a3 j (by omega) hj
  · simp (disch := omega) only [wr_n]
    exact (b3 j (by omega) hj).1
  · simp (disch := omega) only [wr_n]
    exact (b3 j (by omega) hj).2
  · simp (disch := omega) only [wr_n]
    rw [b1 _ _ (by omega) (by omega)]
    simp (disch := omega) only [wr_s]
  · simp (disch := omega) only [wr_n, wr_s]
  · simp (disch := omega) only [wr_n, wr_s]
  · simp (disch := omega) only [wr_n, wr_s]
  · have hc : j = 6 ∨ j = 7 ∨ j = 8 ∨ j = 9 ∨ j = 10 ∨ j = 11 := by omega
    rcases hc with rfl | rfl | rfl | rfl | rfl | rfl <;> simp (disch := omega) only [wr_n, wr_s]
theorem lastHome_e {I : Mem} {c : Nat} (h : I 26 0 = nI c) (hc : c ≤ 10) : fX0_lastHome 25 I = some (if c = 0 then -1 else I 27 (c - 1)) := by
  unfold fX0_lastHome
  rw [h]
  simp only [nI_le0 (show c < 2 ^ 31 by omega)]
  by_cases h0 : c = 0
  · rw [if_pos h0, if_pos h0, ob_s]
  · rw [if_neg h0, if_neg h0, nI_sub1 (by omega) (by omega), ald_n (by omega) (by omega), ob_s, ob_s]
/-- what adding a buoy writes -/
theorem add_e {b c : Nat} {I : Mem} {a1 a2 a3 a4 : Int32} (h : I (b + 1) 0 = nI c) (hc : c ≤ 10) : ∃ I', fX0_add b a1 a2 a3 a4 I = some I' ∧ (∀ k j, ¬ (b + 1 ≤ k ∧ k ≤ b + 10) → I' k j = I k j) ∧ (c < 10 → (I' (b + 1) 0 = nI (c + 1) ∧ I' (b + 2) c = a1 ∧ I' (b + 3) c = a2 ∧ I' (b + 4) c = a3 ∧ I' (b + 5) c = a4) ∧ (I' (b + 6) c = 0 ∧ I' (b + 7) c = 0 ∧ I' (b + 8) c = 0 ∧ I' (b + 9) c = -1 ∧ I' (b + 10) c = 0) ∧ ∀ k j, ¬ (k = b + 1 ∧ j = 0) → ¬ (b + 2 ≤ k ∧ k ≤ b + 10 ∧ j = c) → I' k j = I k j) := by
  unfold fX0_add
  by_cases h10 : c < 10
  · rw [h, if_pos (show nI c < 10 from show nI c < nI 10 by rw [nI_ltP (by omega) (by omega)]; omega)]
    simp (disch := omega) only [ast_n, ob_s, wr_n, h, nI_1]
    refine ⟨_, rfl, fun k j q => ?_, fun _ => ⟨⟨?_, ?_, ?_, ?_, ?_⟩, ⟨?_, ?_, ?_, ?_, ?_⟩, fun k j q1 q2 => ?_⟩⟩
    all_goals simp (disch := omega) only [wr_n, wr_s]
  · rw [h, if_neg (show ¬ nI c < 10 from show ¬ nI c < nI 10 by rw [nI_ltP (by omega) (by omega)]; omega)]
    exact ⟨I, rfl, fun _ _ _ => rfl, fun q => absurd q h10⟩
theorem DR.add {c : Nat} {I I' J J' : Mem} {v v4 : Int32} {v2 v3 : Nat} (h : DR c I J) (hc : c < 10) (h2 : 1 ≤ v2 ∧ v2 ≤ 9) (h3 : v3 ≤ 99) (h4 : bd (-99) 99 v4)
    (hI : (I' 26 0 = nI (c + 1) ∧ I' 27 c = v ∧ I' 28 c = nI v2 ∧ I' 29 c = nI v3 ∧ I' 30 c = v4) ∧ (I' 31 c = 0 ∧ I' 32 c = 0 ∧ I' 33 c = 0 ∧ I' 34 c = -1 ∧ I' 35 c = 0) ∧ ∀ k j, ¬ (k = 26 ∧ j = 0) → ¬ (27 ≤ k ∧ k ≤ 35 ∧ j = c) → 25 ≤ k → k ≤ 48 → I' k j = I k j)
    (hJ : (J' 309 0 = nI (c + 1) ∧ J' 309 (12 + c) = v ∧ J' 309 (22 + c) = nI v2 ∧ J' 309 (32 + c) = nI v3 ∧ J' 309 (42 + c) = v4) ∧ ∀ j, ¬ (j = 0 ∨ j = 12 + c ∨ j = 22 + c ∨ j = 32 + c ∨ j = 42 + c) → J' 309 j = J 309 j) : DR (c + 1) I' J' := by
  obtain ⟨⟨-, -, -, d4, d5, d6⟩, ⟨d7, d8, d9, d10⟩, d11⟩ := h
  obtain ⟨⟨i1, i2, i3, i4, i5⟩, ⟨i6, i7, i8, i9, i10⟩, i11⟩ := hI
  obtain ⟨⟨j1, j2, j3, j4, j5⟩, j6⟩ := hJ
  refine ⟨⟨hc, i1, j1, ?_, ?_, fun j a b => ?_⟩, ⟨?_, fun i a b => ?_, fun j a b => ?_, fun j a => ?_⟩, fun j a => ?_⟩
  · rw [i11 _ _ (by omega) (by omega) (by omega) (by omega)]; exact d4
  · rw [i11 _ _ (by omega) (by omega) (by omega) (by omega)]; exact d5
  · rw [i11 _ _ (by omega) (by omega) (by omega) (by omega)]; exact d6 j a b
  · rw [i11 _ _ (by omega) (by omega) (by omega) (by omega), j6 _ (by omega)]; exact d7
  · rw [j6 _ (by omega)]; exact d8 i a b
  · rw [j6 _ (by omega)]; exact d9 j (by omega) b
  · rw [i11 _ _ (by omega) (by omega) (by omega) (by omega), i11 _ _ (by omega) (by omega) (by omega) (by omega), j6 _ (by omega)]; exact d10 j a
  · by_cases hj : j = c
    · subst hj
      rw [i2, i3, i4, i5, j2, j3, j4, j5]
      refine ⟨⟨rfl, rfl, rfl, rfl⟩, ⟨i6, i7, i8, i9, i10⟩, ?_, ?_, h4⟩
      · unfold bd; rw [nI_toInt (by omega)]; omega
      · unfold bd; rw [nI_toInt (by omega)]; omega
    · rw [i11 27 _ (by omega) (by omega) (by omega) (by omega), i11 28 _ (by omega) (by omega) (by omega) (by omega), i11 29 _ (by omega) (by omega) (by omega) (by omega), i11 30 _ (by omega) (by omega) (by omega) (by omega), i11 31 _ (by omega) (by omega) (by omega) (by omega), i11 32 _ (by omega) (by omega) (by omega) (by omega), i11 33 _ (by omega) (by omega) (by omega) (by omega), i11 34 _ (by omega) (by omega) (by omega) (by omega), i11 35 _ (by omega) (by omega) (by omega) (by omega), j6 (12 + j) (by omega), j6 (22 + j) (by omega), j6 (32 + j) (by omega), j6 (42 + j) (by omega)]
      exact d11 j (by omega)
