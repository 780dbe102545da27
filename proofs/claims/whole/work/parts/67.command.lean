/-! A COMMAND, AND ALL OF THEM -/
def cbC (a1 x4 : Int32) (I5 : Mem) : Option Mem :=
            if x4 = (10 : Int32) then
              ob2 (fX2_takeNumber (1 : Int32) (9999 : Int32) I5) fun x6 I7 =>
              Option.bind (fX4_add x6 I7) fun I8 =>
              some I8
            else if x4 = (11 : Int32) then
              Option.bind (fX7_readReports I5) fun I9 =>
              some I9
            else if x4 = (12 : Int32) then
              ob2 (fX2_takeNumber (1 : Int32) (99 : Int32) I5) fun x10 I11 =>
              Option.bind (fX4_add x10 I11) fun I12 =>
              Option.bind (fX7_readHitBuoys I12) fun I13 =>
              some I13
            else if x4 = (13 : Int32) then
              ob2 (fX2_takeNumber (0 : Int32) (a1 - (2 : Int32)) I5) fun x14 I15 =>
              Option.bind (fX4_add x14 I15) fun I16 =>
              some I16
            else if x4 = (14 : Int32) then
              ob2 (fX2_takeNumber (1 : Int32) (99 : Int32) I5) fun x17 I18 =>
              Option.bind (fX4_add x17 I18) fun I19 =>
              some I19
            else if x4 = (15 : Int32) then
              ob2 (fX2_takeNumber (0 : Int32) (a1 - (1 : Int32)) I5) fun x20 I21 =>
              Option.bind (fX4_add x20 I21) fun I22 =>
              some I22
            else 
              some I5
def cbR (x1 : Int32) (J5 : Mem) : Option (Int32 × Mem) :=
      if x1 = (0 : Int32) then
        ob2 (fX8_readHour J5) fun x6 J7 =>
        Option.bind (zbo x6) fun v9 =>
        some (v9, J7)
      else if x1 = (1 : Int32) then
        ob2 (fX8_readStorm J5) fun x8 J9 =>
        Option.bind (zbo x8) fun v9 =>
        some (v9, J9)
      else if x1 = (2 : Int32) then
        Option.bind (ald J5 307 574 (0 : Int32)) fun x10 =>
        ob2 (fX8_takesCode (0 : Int32) (x10 - (2 : Int32)) J5) fun x11 J12 =>
        Option.bind (zbo x11) fun v9 =>
        some (v9, J12)
      else if x1 = (3 : Int32) then
        ob2 (fX8_takesCode (1 : Int32) (99 : Int32) J5) fun x13 J14 =>
        Option.bind (zbo x13) fun v9 =>
        some (v9, J14)
      else if x1 = (4 : Int32) then
        ob2 (fX8_takesBuoy J5) fun x15 J16 =>
        Option.bind (zbo x15) fun v9 =>
        some (v9, J16)
      else 
        ob2 (fX8_takesCode (1 : Int32) (9999 : Int32) J5) fun x17 J18 =>
        Option.bind (zbo x17) fun v9 =>
        some (v9, J18)
def cmC (a1 : Int32) (I : Mem) : Option Mem := ob2 (fX7_takeCommandWord I) fun x4 I5 => cbC a1 x4 I5
theorem isC : ∀ K, K < 16 → fX7_isCommand (nI K) = some (b2i (decide (10 ≤ K ∧ K ≤ 15))) := by decide +kernel
def cmN (K : Nat) : Int32 := if K = 11 then 0 else if K = 12 then 1 else if K = 13 then 2 else if K = 14 then 3 else if K = 15 then 4 else if K = 10 then 5 else -1
section CD
variable {T : Nat → Nat} {c L N i m s p : Nat} {I J : Mem}
theorem here_S (h : St T L N i I J) : fX8_commandHere J = some (cmN (kd T L (sg T L i))) := by
  unfold fX8_commandHere
  rw [word_S h (w := 4) (by omega), word_S h (w := 5) (by omega), word_S h (w := 6) (by omega), word_S h (w := 7) (by omega), word_S h (w := 8) (by omega), word_S h (w := 3) (by omega)]
  generalize kd T L (sg T L i) = K
  unfold cmN
  by_cases h1 : K = 11
  · subst h1; rfl
  by_cases h2 : K = 12
  · subst h2; rfl
  by_cases h3 : K = 13
  · subst h3; rfl
  by_cases h4 : K = 14
  · subst h4; rfl
  by_cases h5 : K = 15
  · subst h5; rfl
  by_cases h6 : K = 10
  · subst h6; rfl
  rw [if_neg h1, if_neg h2, if_neg h3, if_neg h4, if_neg h5, if_neg h6, decide_eq_false h1, decide_eq_false h2, decide_eq_false h3, decide_eq_false h4, decide_eq_false h5, decide_eq_false h6]
  rfl
theorem sub12 {c : Nat} (hc : 2 ≤ c ∧ c ≤ 10) : nI c - 2 = nI (c - 2) ∧ nI c - 1 = nI (c - 1) := ⟨nI_sub (b := 2) hc.1 (by omega), nI_sub1 (by omega) (by omega)⟩
/-- the body of any command -/
theorem body_S {k y K : Nat} (h : BH c T L N i k s p y I J) (hy : nI y = cmN K) (hy6 : y < 6) (hK : 10 ≤ K ∧ K ≤ 15) : BO c T L N i k s p (nI K) I J (cbC (nI c) (nI K) I) (cbR (nI y) J) := by
  obtain ⟨-, -, -, -, -, g1, g2, g3⟩ := id h
  obtain ⟨e1, e2⟩ := sub12 g3
  have hb : ∀ v, v ≤ 10 → (nI v).toInt < 1000000 ∧ (nI v).toInt = v := fun v q => by rw [nI_toInt (by omega)]; omega
  have hc : K = 10 ∨ K = 11 ∨ K = 12 ∨ K = 13 ∨ K = 14 ∨ K = 15 := by omega
  unfold cbC cbR
  rcases hc with rfl | rfl | rfl | rfl | rfl | rfl
  · have : y = 5 := (nI_eqP (b := 5) (by omega) (by omega)).mp hy
    subst this
    rw [if_pos (show nI 10 = 10 from rfl), if_neg (show ¬ nI 5 = 0 by decide), if_neg (show ¬ nI 5 = 1 by decide), if_neg (show ¬ nI 5 = 2 by decide), if_neg (show ¬ nI 5 = 3 by decide), if_neg (show ¬ nI 5 = 4 by decide)]
    refine BO.b2 (b_arg (a := 1) (b := nI 9999) (y := 5) (K := 10) h (by omega) (by decide) fun v q1 q2 => ?_)
    rw [show (nI 9999).toInt = 9999 by decide] at q2
    omega
  · have : y = 0 := (nI_eqP (b := 0) (by omega) (by omega)).mp hy
    subst this
    rw [if_neg (show ¬ nI 11 = 10 by decide), if_pos (show nI 11 = 11 from rfl), if_pos (show nI 0 = 0 from rfl)]
    exact (b_hour h).b1.b2
  · have : y = 1 := (nI_eqP (b := 1) (by omega) (by omega)).mp hy
    subst this
    rw [if_neg (show ¬ nI 12 = 10 by decide), if_neg (show ¬ nI 12 = 11 by decide), if_pos (show nI 12 = 12 from rfl), if_neg (show ¬ nI 1 = 0 by decide), if_pos (show nI 1 = 1 from rfl)]
    exact (b_storm h).b2
  · have : y = 2 := (nI_eqP (b := 2) (by omega) (by omega)).mp hy
    subst this
    rw [if_neg (show ¬ nI 13 = 10 by decide), if_neg (show ¬ nI 13 = 11 by decide), if_neg (show ¬ nI 13 = 12 by decide), if_pos (show nI 13 = 13 from rfl), if_neg (show ¬ nI 2 = 0 by decide), if_neg (show ¬ nI 2 = 1 by decide), if_pos (show nI 2 = 2 from rfl), ald_0 (by omega) (by omega), ob_s, g2, e1]
    refine BO.b2 (b_arg (a := 0) (b := nI (c - 2)) (y := 2) (K := 13) h (by omega) (hb _ (by omega)).1 fun v q1 q2 => ?_)
    rw [(hb _ (by omega)).2] at q2
    omega
  · have : y = 3 := (nI_eqP (b := 3) (by omega) (by omega)).mp hy
    subst this
    rw [if_neg (show ¬ nI 14 = 10 by decide), if_neg (show ¬ nI 14 = 11 by decide), if_neg (show ¬ nI 14 = 12 by decide), if_neg (show ¬ nI 14 = 13 by decide), if_pos (show nI 14 = 14 from rfl), if_neg (show ¬ nI 3 = 0 by decide), if_neg (show ¬ nI 3 = 1 by decide), if_neg (show ¬ nI 3 = 2 by decide), if_pos (show nI 3 = 3 from rfl)]
    refine BO.b2 (b_arg (a := 1) (b := nI 99) (y := 3) (K := 14) h (by omega) (by decide) fun v q1 q2 => ?_)
    rw [show (nI 99).toInt = 99 by decide] at q2
    omega
  · have : y = 4 := (nI_eqP (b := 4) (by omega) (by omega)).mp hy
    subst this
    unfold fX8_takesBuoy
    rw [if_neg (show ¬ nI 15 = 10 by decide), if_neg (show ¬ nI 15 = 11 by decide), if_neg (show ¬ nI 15 = 12 by decide), if_neg (show ¬ nI 15 = 13 by decide), if_neg (show ¬ nI 15 = 14 by decide), if_pos (show nI 15 = 15 from rfl), if_neg (show ¬ nI 4 = 0 by decide), if_neg (show ¬ nI 4 = 1 by decide), if_neg (show ¬ nI 4 = 2 by decide), if_neg (show ¬ nI 4 = 3 by decide), if_pos (show nI 4 = 4 from rfl), ald_0 (by omega) (by omega), ob_s, g2, e2]
    refine BO.b2 (BO.b2 (b_arg (a := 0) (b := nI (c - 1)) (y := 4) (K := 15) h (by omega) (hb _ (by omega)).1 fun v q1 q2 => ?_))
    rw [(hb _ (by omega)).2] at q2
    omega
/-- behind an error nothing is read, but all is gone through -/
theorem body_E (h : EI I) (hS : SE I) {K : Nat} (hK : K ≤ 15) (x : Int32) : ∃ I', cbC x (nI K) I = some I' ∧ SE I' ∧ pI I I' ∧ ∀ j, I' 56 j = I 56 j := by
  have one : ∀ a b : Int32, ∃ I', (ob2 (fX2_takeNumber a b I) fun x I7 => Option.bind (fX4_add x I7) fun I8 => some I8) = some I' ∧ SE I' ∧ pI I I' ∧ ∀ j, I' 56 j = I 56 j := fun a b => by
    obtain ⟨I1, a1, a2, a3, a4⟩ := add_E hS a
    rw [num_E h, ob2_some, a1, ob_s]
    exact ⟨I1, rfl, a2, a3, a4⟩
  unfold cbC
  split
  · exact one _ _
  split
  · unfold fX7_readReports
    rw [rep_E h (zF_g (by omega)), ob_s, ob_s]
    exact ⟨I, rfl, hS, pI.rf, fun _ => rfl⟩
  split
  · obtain ⟨I1, a1, a2, a3, a4⟩ := add_E hS 1
    obtain ⟨I2, b1, b2, b3, b4⟩ := hit_E (h.cg (a4 5) (a4 6)) a2
    rw [num_E h, ob2_some, a1, ob_s, b1, ob_s]
    exact ⟨I2, rfl, b2, a3.tr b3, fun j => (b4 j).trans (a4 j)⟩
  split
  · exact one _ _
  split
  · exact one _ _
  split
  · exact one _ _
  · exact ⟨I, rfl, hS, pI.rf, fun _ => rfl⟩
/-- where the reading of a script stands -/
def QS (c : Nat) (T : Nat → Nat) (L N i m s p : Nat) (I J : Mem) : Prop :=
  St T L N i I J ∧ (I 61 0 = nI m ∧ m ≤ 40 ∧ I 63 m = nI s ∧ J 306 23 = nI p ∧ J 306 24 = nI m) ∧ (s ≤ i ∧ p ≤ i ∧ I 2 0 = nI c ∧ J 307 0 = nI c ∧ 2 ≤ c ∧ c ≤ 10) ∧ SC c I J m s p
def be (I : Mem) (m s : Nat) (v : Int32) : Mem := wr (wr (wr I 62 m v) 63 (m + 1) (nI s)) 61 0 (nI (m + 1))
theorem begin4 {v : Int32} (h1 : I 61 0 = nI m) (h2 : m < 40) (h3 : I 63 m = nI s) : fX4_begin v I = some (be I m s v) := by
  unfold fX4_begin be
  rw [h1, if_neg (show ¬ (40 : Int32) ≤ nI m from show ¬ nI 40 ≤ nI m by rw [nI_leP (by omega) (by omega)]; omega), ast_n h2 (by omega), ob_s, wr_k (by omega), h1, ald_n (by omega) (by omega), ob_s, nI_1, ast_n (by omega) (by omega), ob_s, ob_s, wr_k (by omega), h3]
  simp (disch := omega) only [wr_n]
  rw [h1, nI_1]
theorem begin_E (h : SE I) (v : Int32) : ∃ I', fX4_begin v I = some I' ∧ SE I' ∧ pI I I' ∧ ∀ j, I' 56 j = I 56 j := by
  obtain ⟨m, s, a1, a2, a3, a4⟩ := h
  by_cases hm : m < 40
  · refine ⟨_, begin4 a3 hm a4, ⟨m + 1, s, by omega, a2, ?_, ?_⟩, fun k j q => ?_, fun j => ?_⟩
    · unfold be; rw [wr_s]
    · unfold be; simp (disch := omega) only [wr_n, wr_s]
    · unfold be; simp (disch := omega) only [wr_n]
    · unfold be; simp (disch := omega) only [wr_n]
  · refine ⟨I, ?_, ⟨m, s, a1, a2, a3, a4⟩, pI.rf, fun _ => rfl⟩
    unfold fX4_begin
    rw [a3, if_pos (show (40 : Int32) ≤ nI m from show nI 40 ≤ nI m by rw [nI_leP (by omega) (by omega)]; omega), ob_s]
theorem cmd_S (h : QS c T L N i m s p I J) (hN : i < N) :
    (∃ i' s1 p1 I' J', i < i' ∧ cmC (nI c) I = some I' ∧ fX8_readCommand J = some (1, J') ∧ St T L N i' I' J' ∧ (I' 61 0 = nI (m + 1) ∧ m + 1 ≤ 40 ∧ I' 63 (m + 1) = nI s1 ∧ J' 306 23 = nI p1 ∧ J' 306 24 = nI (m + 1) ∧ s1 ≤ i' ∧ p1 ≤ i' + 1) ∧ SC c I' J' (m + 1) s1 p1 ∧ pI I I' ∧ pJ J J') ∨
    ∃ I' J', cmC (nI c) I = some I' ∧ fX8_readCommand J = some (0, J') ∧ Er I' J' ∧ SE I' ∧ pI I I' ∧ pJ J J' := by
  obtain ⟨h, ⟨h1, h2, h3, h4, h5⟩, ⟨h6, h7, h8, h9, h10⟩, hC⟩ := h
  have hN5 := h.N5
  have hv := @kd_v T L (sg T L i)
  unfold cmC fX7_takeCommandWord fX8_readCommand
  rw [here_S h, ob_s, kind_S h, ob_s, isC _ (by omega), ob_s]
  generalize hK : kd T L (sg T L i) = K at *
  have hSE : ∀ I', fI I I' → SE I' := fun I' f => ⟨m, s, h2, by omega, by rw [f _ _ (by omega)]; exact h1, by rw [f _ _ (by omega)]; exact h3⟩
  by_cases hcm : 10 ≤ K ∧ K ≤ 15
  · have hy : ∃ y, cmN K = nI y ∧ y < 6 := by
      have : K = 10 ∨ K = 11 ∨ K = 12 ∨ K = 13 ∨ K = 14 ∨ K = 15 := by omega
      rcases this with rfl | rfl | rfl | rfl | rfl | rfl
      · exact ⟨5, rfl, by omega⟩
      · exact ⟨0, rfl, by omega⟩
      · exact ⟨1, rfl, by omega⟩
      · exact ⟨2, rfl, by omega⟩
      · exact ⟨3, rfl, by omega⟩
      · exact ⟨4, rfl, by omega⟩
    obtain ⟨y, hy, hy6⟩ := hy
    have hym : ¬ nI y = -1 := by
      have : ∀ y, y < 6 → ¬ nI y = -1 := by decide
      exact this y hy6
    rw [decide_eq_true hcm, if_neg (show ¬ b2i true = 0 by decide), hy, if_neg hym, plet_d, h1, h5]
    simp only [show (nI m < 40) = (m < 40) from nI_ltP (b := 40) (by omega) (by omega), show ((40 : Int32) ≤ nI m) = (40 ≤ m) from nI_leP (a := 40) (by omega) (by omega)]
    unfold fX8_starts
    by_cases hm : m < 40
    · obtain ⟨J1, a1, a2, a3⟩ := adv_S h hN
      rw [if_pos hm, if_neg (show ¬ 40 ≤ m by omega), ob_s, show fX2_takeKind (nI K) I = _ from take_ok (k := K) h hK (by omega), ob_s, if_neg n10, a1, ob_s, zbo_1, ob_s, ob2_some, if_neg n10, begin4 (m := m) (s := s) (by rw [wr_k (by omega)]; exact h1) hm (by rw [wr_k (by omega)]; exact h3), ob_s, ob2_some, show J1 306 24 = nI m by rw [a3 _ _ (by omega)]; exact h5, nI_1, emi_e (p := p) (by rw [wr_j (by omega), a3 _ _ (by omega)]; exact h4) (by omega), ob_s]
      have fI1 : ∀ k j, ¬ (k = 62 ∧ j = m) → ¬ (k = 63 ∧ j = m + 1) → ¬ (k = 61 ∧ j = 0) → ¬ (k = 56 ∧ j = 5) → (be (wr I 56 5 (nI (i + 1))) m s (nI K)) k j = I k j := fun k j q1 q2 q3 q4 => by
        unfold be
        rw [wr_n q3, wr_n q2, wr_n q1, wr_n q4]
      have fJ1 : ∀ k j, ¬ (k = 316 ∧ j = p) → ¬ (k = 306 ∧ (11 ≤ j ∧ j ≤ 17 ∨ j = 23 ∨ j = 24)) → (em (wr J1 306 24 (nI (m + 1))) p (nI y)) k j = J k j := fun k j q1 q2 => by
        rw [em_o q1 (by omega), wr_n (by omega), a3 _ _ (by omega)]
      have hB : BH c T L N (i + 1) (m + 1) s p y (be (wr I 56 5 (nI (i + 1))) m s (nI K)) (em (wr J1 306 24 (nI (m + 1))) p (nI y)) := by
        refine ⟨a2.cg (fun k j q1 q2 => ?_) (fun k j q => by rw [em_o (by omega) (by omega), wr_n (by omega)]), ⟨?_, by omega, ?_, em_k⟩, by omega, by omega, em_s, ?_, ?_, h10⟩
        · unfold be; rw [wr_k (by omega), wr_k (by omega), wr_k (by omega)]
        · unfold be; rw [wr_s]
        · unfold be; rw [wr_k (by omega), wr_s]
        · rw [fI1 _ _ (by omega) (by omega) (by omega) (by omega)]; exact h8
        · rw [fJ1 _ _ (by omega) (by omega)]; exact h9
      have b62 : (be (wr I 56 5 (nI (i + 1))) m s (nI K)) 62 m = nI K := by unfold be; simp (disch := omega) only [wr_n, wr_s]
      have b61 : (be (wr I 56 5 (nI (i + 1))) m s (nI K)) 61 0 = nI (m + 1) := by unfold be; rw [wr_s]
      have c24 : (em (wr J1 306 24 (nI (m + 1))) p (nI y)) 306 24 = nI (m + 1) := by rw [em_o (by omega) (by omega), wr_s]
      have pI1 : pI I (be (wr I 56 5 (nI (i + 1))) m s (nI K)) := fun k j q => fI1 k j (by omega) (by omega) (by omega) (by omega)
      have pJ1 : pJ J (em (wr J1 306 24 (nI (m + 1))) p (nI y)) := fun k j q => fJ1 k j (by omega) (by omega)
      generalize be (wr I 56 5 (nI (i + 1))) m s (nI K) = I2 at *
      generalize em (wr J1 306 24 (nI (m + 1))) p (nI y) = J2 at *
      rcases body_S hB hy.symm hy6 hcm with ⟨i', s1, p1, I', J', e1, e2, e3, e4, ⟨e5, e6, e7, e8, e9, e10⟩, e11, e12, e13⟩ | ⟨I', J', e1, e2, e3, e4, e5, e6⟩
      · have hi5 := e4.iN
        unfold cbR at e3
        rw [e2, e3]
        refine Or.inl ⟨i', s1, p1, I', J', by omega, rfl, rfl, e4, ⟨?_, by omega, e5, e6, ?_, e8, e10⟩, ⟨s, p, hC.cg (fun x q => ?_) (fun x q => ?_) (fun x q => ?_) (fun x q => ?_), ⟨?_, e5, e7, by omega, e9, by omega⟩, ?_⟩, pI1.tr e12.p, pJ1.tr e13.p⟩
        · rw [e12 _ _ (by omega) (by omega) (by omega)]; exact b61
        · rw [e13 _ _ (by omega) (by omega)]; exact c24
        · rw [e12 _ _ (by omega) (by omega) (by omega), fI1 _ _ (by omega) (by omega) (by omega) (by omega)]
        · rw [e12 _ _ (by omega) (by omega) (by omega), fI1 _ _ (by omega) (by omega) (by omega) (by omega)]
        · rw [e12 _ _ (by omega) (by omega) (by omega), fI1 _ _ (by omega) (by omega) (by omega) (by omega)]
        · rw [e13 _ _ (by omega) (by omega), fJ1 _ _ (by omega) (by omega)]
        · rw [e12 _ _ (by omega) (by omega) (by omega), fI1 _ _ (by omega) (by omega) (by omega) (by omega)]; exact h3
        · rw [e12 _ _ (by omega) (by omega) (by omega), b62]; exact e11
      · unfold cbR at e2
        rw [e1, e2]
        exact Or.inr ⟨I', J', rfl, rfl, e3, e4, pI1.tr e5, pJ1.tr e6⟩
    · obtain ⟨I', J', f1, f2, f3, f4, f5⟩ := fails_S h (c := 4) (by omega) (by omega)
      rw [if_neg hm, if_pos (show 40 ≤ m by omega), show fX2_fail 4 I = _ from f1, ob_s, ob_s, take_E f3.1, ob_s, if_pos rfl, show fX8_fails 4 J = _ from f2, ob2_some, zbo_0, ob_s, ob2_some, if_pos rfl, ob_s]
      obtain ⟨I2, g1, g2, g3, g4⟩ := begin_E (hSE I' f4) (nI K)
      have hE2 : Er I2 J' := f3.cg g4 (fun _ _ _ => rfl)
      obtain ⟨I3, k1, k2, k3, k4⟩ := body_E hE2.1 g2 (K := K) (by omega) (nI c)
      rw [g1, ob_s, ob2_some, k1]
      exact Or.inr ⟨I3, J', rfl, rfl, hE2.cg k4 (fun _ _ _ => rfl), k2, (f4.p.tr g3).tr k3, f5.p⟩
  · have hy : cmN K = -1 := by
      unfold cmN
      rw [if_neg (by omega), if_neg (by omega), if_neg (by omega), if_neg (by omega), if_neg (by omega), if_neg (by omega)]
    obtain ⟨I', J', f1, f2, f3, f4, f5⟩ := fails_S h (c := 1) (by omega) (by omega)
    rw [decide_eq_false hcm, if_pos (show b2i false = 0 by decide), hy, if_pos rfl, show fX2_fail 1 I = _ from f1, ob_s, ob_s, take_E f3.1, ob_s, show fX8_fails 1 J = _ from f2, ob2_some, zbo_0, ob_s]
    obtain ⟨I2, g1, g2, g3, g4⟩ := begin_E (hSE I' f4) (nI K)
    have hE2 : Er I2 J' := f3.cg g4 (fun _ _ _ => rfl)
    obtain ⟨I3, k1, k2, k3, k4⟩ := body_E hE2.1 g2 (K := K) (by omega) (nI c)
    rw [g1, ob_s, ob2_some, k1]
    exact Or.inr ⟨I3, J', rfl, rfl, hE2.cg k4 (fun _ _ _ => rfl), k2, (f4.p.tr g3).tr k3, f5.p⟩
/-- all commands, up to the end -/
theorem playE_L (h : EI I) {n : Nat} (hn : 0 < n) (a x : Int32) : fX7_readScript_L27 a n x I = some I := by
  obtain ⟨n, rfl⟩ := fuel hn
  rw [fX7_readScript_L27, more_E h, ob_s, if_pos rfl]
  exact ite_self _
end CD
theorem play_L {T : Nat → Nat} {L N c : Nat} : ∀ (d x n f m i s p : Nat) (I J : Mem), N - i = d → x ≤ i → d + 2 < n → d + 2 < f → QS c T L N i m s p I J → ∃ (ok : Int32) (I' J' : Mem), fX7_readScript_L27 (nI c) n (nI x) I = some I' ∧ fX8_play_L21 f 1 J = some (ok, J') ∧ pI I I' ∧ pJ J J' ∧ ((ok = 1 ∧ St T L N N I' J' ∧ ∃ m s p, (I' 61 0 = nI m ∧ m ≤ 40 ∧ J' 306 24 = nI m) ∧ SC c I' J' m s p) ∨ (ok = 0 ∧ Er I' J')) := by
  intro d
  induction d using Nat.strongRecOn with
  | ind d ih =>
    intro x n f m i s p I J hd hx hn hf hQ
    obtain ⟨h, ⟨h1, h2, h3, h4, h5⟩, ⟨h6, h7, h8, h9, h10⟩, hC⟩ := id hQ
    obtain ⟨n, rfl⟩ := fuel hn
    obtain ⟨f, rfl⟩ := fuel hf
    have hN5 := h.N5
    have hiN := h.iN
    have htk := h.t13 (k := 0) (by omega)
    have hkd := h.hi
    rw [kd_0, ← tk_0, ← htk] at hkd
    rw [fX7_readScript_L27, fX8_play_L21, if_neg n10]
    by_cases hend : i = N
    · subst hend
      rw [if_pos (show J 306 13 = 0 from hkd.mpr rfl), more_S h, ob_s, decide_eq_false (by omega), if_pos (show b2i false = 0 by decide), ite_self]
      exact ⟨1, I, J, rfl, rfl, pI.rf, pJ.rf, Or.inl ⟨rfl, h, m, s, p, ⟨h1, h2, h5⟩, hC⟩⟩
    · rw [if_neg (show ¬ J 306 13 = 0 from fun q => hend (hkd.mp q)), if_neg (show ¬ (500 : Int32) ≤ nI x from show ¬ nI 500 ≤ nI x by rw [nI_leP (by omega) (by omega)]; omega), more_S h, ob_s, decide_eq_true (by omega), if_neg (show ¬ b2i true = 0 by decide)]
      have hz : ∀ (o : Option (Int32 × Mem)) (g : Mem → Option Mem), (ob2 o fun x4 I5 => Option.bind (cbC (nI c) x4 I5) g) = Option.bind (ob2 o fun x4 I5 => cbC (nI c) x4 I5) g := fun o g => by
        cases o <;> rfl
      have hcm := hz (fX7_takeCommandWord I) (fun I23 => Option.bind (fX2_takeKind (3 : Int32) I23) fun I24 => fX7_readScript_L27 (nI c) n (nI x + (1 : Int32)) I24)
      unfold cbC at hcm
      rw [hcm]
      rcases cmd_S hQ (by omega) with ⟨i1, s1, p1, I1, J1, a1, a2, a3, a4, ⟨b1, b2, b3, b4, b5, b6, b7⟩, a5, a6, a7⟩ | ⟨I1, J1, a2, a3, a4, a5, a6, a7⟩
      · unfold cmC cbC at a2
        rw [a2, a3, ob_s, ob2_some, if_neg n10]
        rcases stop_S a4 with ⟨J2, c1, c2, c3, c4, c5⟩ | ⟨I2, J2, c2, c3, c4, c5, c6⟩
        · rw [c2, c3, ob_s, ob2_some, if_neg n10, ob2_some, nI_1]
          have hQ2 : QS c T L N (i1 + 1) (m + 1) s1 p1 (wr I1 56 5 (nI (i1 + 1))) J2 := by
            refine ⟨c4, ⟨?_, b2, ?_, ?_, ?_⟩, ⟨by omega, by omega, ?_, ?_, h10⟩, a5.cg (fun x q => wr_k (by omega)) (fun x q => wr_k (by omega)) (fun x q => wr_k (by omega)) (fun x q => c5 _ _ (by omega))⟩
            · rw [wr_k (by omega)]; exact b1
            · rw [wr_k (by omega)]; exact b3
            · rw [c5 _ _ (by omega)]; exact b4
            · rw [c5 _ _ (by omega)]; exact b5
            · rw [wr_k (by omega), a6 _ _ (by omega)]; exact h8
            · rw [c5 _ _ (by omega), a7 _ _ (by omega)]; exact h9
          obtain ⟨ok, I', J', d1, d2, d3, d4, d5⟩ := ih (N - (i1 + 1)) (by omega) (x + 1) n f (m + 1) (i1 + 1) s1 p1 _ _ rfl (by omega) (by omega) (by omega) hQ2
          exact ⟨ok, I', J', d1, d2, (a6.tr fI.wr5.p).tr d3, (a7.tr c5.p).tr d4, d5⟩
        · rw [c2, c3, ob_s, ob2_some, if_pos rfl, ob2_some, nI_1]
          obtain ⟨f, rfl⟩ := fuel (show 0 < f by omega)
          rw [playE_L c4.1 (by omega), fX8_play_L21, if_pos rfl]
          exact ⟨0, I2, J2, rfl, rfl, a6.tr c5.p, a7.tr c6.p, Or.inr ⟨rfl, c4⟩⟩
      · unfold cmC cbC at a2
        rw [a2, a3, ob_s, ob2_some, if_pos rfl, ob2_some, take_E a4.1, ob_s, nI_1]
        obtain ⟨f, rfl⟩ := fuel (show 0 < f by omega)
        rw [playE_L a4.1 (by omega), fX8_play_L21, if_pos rfl]
        exact ⟨0, I1, J1, rfl, rfl, a6, a7, Or.inr ⟨rfl, a4⟩⟩
