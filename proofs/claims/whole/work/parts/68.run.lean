/-! A SCRIPT IS RUN -/
theorem Kp.t {K : Nat → Nat → Prop} {I I1 I2 : Mem} (h1 : Kp K I I1) (h2 : Kp K I1 I2) : Kp K I I2 := fun k j q => (h2 k j q).trans (h1 k j q)
theorem RelB.c {E : Nat} {I J : Mem} (h : RelB E I J) : J 307 0 = I 2 0 := by
  obtain ⟨⟨c, e, -, hW⟩, -⟩ := h
  exact hW.1.1.2.2.1.trans hW.2.1.1.symm
theorem RelB.up {E F : Nat} {I J : Mem} (h : RelB E I J) (hF : E ≤ F) : RelB F I J := RelB.cong hF (fun _ _ _ => rfl) (fun _ _ _ => rfl) h
section RU
variable {c j m s s1 p p1 E : Nat} {I J I0 J0 : Mem}
theorem argn_e (h1 : I 61 0 = nI m) (hj : j < m) (hm : m ≤ 40) (h2 : I 63 j = nI s) (h3 : I 63 (j + 1) = nI s1) (hs : s ≤ s1) (hs1 : s1 ≤ 500) : fX4_arguments (nI j) I = some (nI (s1 - s)) := by
  unfold fX4_arguments
  rw [if_neg (nI_pos (by omega)), h1, if_neg (by rw [nI_leP (by omega) (by omega)]; omega), nI_1, ald_n (by omega) (by omega), ob_s, ald_n (by omega) (by omega), ob_s, h2, h3, nI_sub hs (by omega), ob_s]
theorem arg_e {x : Nat} (h1 : I 61 0 = nI m) (hj : j < m) (hm : m ≤ 40) (h2 : I 63 j = nI s) (h3 : I 63 (j + 1) = nI s1) (hs : s ≤ s1) (hs1 : s1 ≤ 500) (hx : s + x < s1) : fX4_argument (nI j) (nI x) I = some (I 64 (s + x)) := by
  unfold fX4_argument
  rw [if_neg (nI_pos (by omega)), argn_e h1 hj hm h2 h3 hs hs1, ob_s, if_neg (by rw [nI_leP (by omega) (by omega)]; omega), ald_n (by omega) (by omega), ob_s, h2, nI_addn, ald_n (by omega) (by omega), ob_s, ob_s]
theorem arg_0 (h1 : I 61 0 = nI m) (hj : j < m) (hm : m ≤ 40) (h2 : I 63 j = nI s) (h3 : I 63 (j + 1) = nI s1) (hs : s ≤ s1) (hs1 : s1 ≤ 500) : ∃ v, fX4_argument (nI j) 0 I = some v := by
  by_cases h : s < s1
  · exact ⟨_, arg_e (x := 0) h1 hj hm h2 h3 hs hs1 h⟩
  · unfold fX4_argument
    rw [if_neg (by decide), argn_e h1 hj hm h2 h3 hs hs1, ob_s, show s1 - s = 0 by omega, if_pos (show nI 0 ≤ 0 by decide), ob_s]
    exact ⟨0, rfl⟩
theorem kindOf_e (h1 : I 61 0 = nI m) (hj : j < m) (hm : m ≤ 40) : fX4_kindOf (nI j) I = some (I 62 j) := by
  unfold fX4_kindOf
  rw [if_neg (nI_pos (by omega)), h1, if_neg (by rw [nI_leP (by omega) (by omega)]; omega), ald_n (by omega) (by omega), ob_s, ob_s]
theorem ix1 (p x : Nat) : nI (p + 1) + 1 + 2 * nI x = nI (p + 2 + 2 * x) := by
  rw [nI_1, show (2 : Int32) * nI x = nI (2 * x) from nI_mul_n 2 x, nI_addn]
theorem ix2 (p x : Nat) : nI (p + 1) + 2 + 2 * nI x = nI (p + 2 + 2 * x + 1) := by
  rw [show nI (p + 1) + 2 = nI (p + 1 + 2) from nI_addn (p + 1) 2, show (2 : Int32) * nI x = nI (2 * x) from nI_mul_n 2 x, nI_addn, show p + 1 + 2 + 2 * x = p + 2 + 2 * x + 1 by omega]
theorem hour_L {r : Nat} (h1 : I0 61 0 = nI m) (hj : j < m) (hm : m ≤ 40) (h2 : I0 63 j = nI s) (h3 : I0 63 (j + 1) = nI (s + 2 * r)) (hs : s + 2 * r ≤ 500) (hp : p + 2 + 2 * r ≤ 501) (h4 : J0 316 (p + 1) = nI r) (hP : RP c I0 J0 s (p + 2) r) (hc : I0 2 0 = nI c) (hc10 : c ≤ 10) (hE : E < 2 ^ 28) :
    ∀ (d x n f : Nat) (I J : Mem), x + d = r → d < n → d < f → Kp KI I0 I → Kp KJ J0 J → RelB E I J → ∃ I' J', fX7_runCommand_L58 (nI j) n (nI (2 * x)) I = some I' ∧ fX8_doesHour_L2 (nI (p + 1)) f (nI x) J = some J' ∧ RelB E I' J' ∧ J' 306 0 = J 306 0 ∧ Kp KI I0 I' ∧ Kp KJ J0 J' := by
  intro d
  induction d with
  | zero =>
    intro x n f I J hx hn hf kI kJ hR
    obtain ⟨n, rfl⟩ := fuel hn
    obtain ⟨f, rfl⟩ := fuel hf
    rw [fX7_runCommand_L58, fX8_doesHour_L2, argn_e (m := m) (s := s) (s1 := s + 2 * r) (by rw [kI _ _ (Or.inl (by omega))]; exact h1) hj hm (by rw [kI _ _ (Or.inl (by omega))]; exact h2) (by rw [kI _ _ (Or.inl (by omega))]; exact h3) (by omega) hs, ob_s, if_pos (by rw [nI_leP (by omega) (by omega)]; omega), ald_n (by omega) (by omega), ob_s, kJ _ _ (Or.inl rfl), h4, if_pos (by rw [nI_leP (by omega) (by omega)]; omega)]
    exact ⟨I, J, rfl, rfl, hR, rfl, kI, kJ⟩
  | succ d ih =>
    intro x n f I J hx hn hf kI kJ hR
    obtain ⟨n, rfl⟩ := fuel hn
    obtain ⟨f, rfl⟩ := fuel hf
    have g1 : I 61 0 = nI m := by rw [kI _ _ (Or.inl (by omega))]; exact h1
    have g2 : I 63 j = nI s := by rw [kI _ _ (Or.inl (by omega))]; exact h2
    have g3 : I 63 (j + 1) = nI (s + 2 * r) := by rw [kI _ _ (Or.inl (by omega))]; exact h3
    obtain ⟨b, b1, b2, b3, b4, b5⟩ := hP x (by omega)
    rw [fX7_runCommand_L58, fX8_doesHour_L2, argn_e g1 hj hm g2 g3 (by omega) hs, ob_s, if_neg (by rw [nI_leP (by omega) (by omega)]; omega), ald_n (by omega) (by omega), ob_s, kJ _ _ (Or.inl rfl), h4, if_neg (by rw [nI_leP (by omega) (by omega)]; omega), ix1, ix2, ald_n (by omega) (by omega), ob_s, ald_n (by omega) (by omega), ob_s, arg_e g1 hj hm g2 g3 (by omega) hs (by omega), ob_s, nI_1, arg_e g1 hj hm g2 g3 (by omega) hs (by omega), ob_s, kJ 316 _ (Or.inl rfl), kJ 316 _ (Or.inl rfl), kI 64 _ (Or.inl (by omega)), kI 64 _ (Or.inl (by omega)), b3, b2, show s + (2 * x + 1) = s + 2 * x + 1 by omega, b4]
    have hcc : J 307 0 = nI c := by rw [hR.c, kI _ _ (Or.inr ⟨rfl, rfl⟩)]; exact hc
    obtain ⟨v, I1, J1, e1, e2, e3, e4, -⟩ := act_report (b := b) hR (by omega) (by rw [hcc, nI_ltP (by omega) (by omega)]; exact b1) (by omega) b5
    have kI1 : Kp KI I0 I1 := kI.t (FO.o fm_X7_report e1)
    have kJ1 : Kp KJ J0 J1 := kJ.t (FO.o fm_X8_reports e2)
    rw [e1, e2, ob3_some, ob2_some, if_pos rfl, nI_1, show nI (2 * x) + 2 = nI (2 * (x + 1)) from nI_addn (2 * x) 2]
    obtain ⟨I', J', f1, f2, f3, f4, f5, f6⟩ := ih (x + 1) n f I1 J1 (by omega) (by omega) (by omega) kI1 kJ1 e3
    exact ⟨I', J', f1, f2, f3, f4.trans e4, f5, f6⟩
theorem tl_e (v : Int32) (I : Mem) : (plet (if v < 0 then (0 : Int32) else 1) fun x6 => Option.bind (zbo x6) fun v9 => some ((0 : Nat), v9, I)) = some (0, b2i (decide (¬ v < 0)), I) := by
  rw [plet_d]
  by_cases h : v < 0
  · rw [if_pos h, decide_eq_false (fun q => q h)]; rfl
  · rw [if_neg h, decide_eq_true h]; rfl
theorem run_1 (hM : CM c I0 J0 j s s1 p p1) (h1 : I0 61 0 = nI m) (hj : j < m) (hm : m ≤ 40) (hc : I0 2 0 = nI c) (hc10 : c ≤ 10) (kI : Kp KI I0 I) (kJ : Kp KJ J0 J) (hR : RelB E I J) (hE : E < 2 ^ 28) :
    ∃ v I' J', fX7_runCommand (nI j) I = some (0, b2i (decide (¬ v < 0)), I') ∧ fX8_does (nI p) J = some (v, J') ∧ RelB (E + 1) I' J' ∧ J' 306 0 = J 306 0 ∧ Kp KI I0 I' ∧ Kp KJ J0 J' ∧ fX8_codesOf (nI p) J' = some (nI (p1 - p)) := by
  obtain ⟨⟨m1, m2, m3, m4, m5, m6⟩, hB⟩ := hM
  have g1 : I 61 0 = nI m := by rw [kI _ _ (Or.inl (by omega))]; exact h1
  have g2 : I 63 j = nI s := by rw [kI _ _ (Or.inl (by omega))]; exact m1
  have g3 : I 63 (j + 1) = nI s1 := by rw [kI _ _ (Or.inl (by omega))]; exact m2
  have hcc : J 307 0 = nI c := by rw [hR.c, kI _ _ (Or.inr ⟨rfl, rfl⟩)]; exact hc
  have i64 : ∀ x, I 64 x = I0 64 x := fun x => kI _ _ (Or.inl (by omega))
  have j16 : ∀ x, J 316 x = J0 316 x := fun x => kJ _ _ (Or.inl rfl)
  have q16 : ∀ {J' : Mem}, Kp KJ J0 J' → ∀ x, J' 316 x = J0 316 x := fun k x => k _ _ (Or.inl rfl)
  unfold fX7_runCommand fX8_does fX8_codesOf
  rw [kindOf_e g1 hj hm, show I 62 j = I0 62 j from kI _ _ (Or.inl (by omega))]
  rcases hB with ⟨r, a1, rfl, rfl, a4, a5, a6, a7⟩ | ⟨f, a, b, ⟨a1, a2, a3, a4, rfl, rfl, a7, a8⟩, ⟨b1, b2, b3⟩, b4, b5, b6⟩ | ⟨K, y, v, ⟨rfl, rfl, a3, a4, a5, a6⟩, a7⟩
  · obtain ⟨w, hw⟩ := arg_0 g1 hj hm g2 g3 m3 m4
    rw [hw, ob_s, ob_s, a4, if_neg (show ¬ nI 11 = 10 by decide), if_pos (show nI 11 = 11 from rfl), nI_1, ald_n (by omega) (by omega), ob_s, ald_n (by omega) (by omega), ob_s, j16, a5, if_pos (show nI 0 = 0 from rfl)]
    unfold fX8_doesHour
    obtain ⟨I1, J1, e1, e2, e3, e4, e5, e6⟩ := hour_L h1 hj hm m1 m2 m4 m6 a6 a7 hc hc10 hE r 0 zF zF I J (by omega) (zF_g (by omega)) (zF_g (by omega)) kI kJ hR
    rw [show fX7_runCommand_L58 (nI j) zF 0 I = _ from e1, ob_s, show fX8_doesHour_L2 (nI (p + 1)) zF 0 J = _ from e2, ob_s]
    obtain ⟨v, I2, J2, d1, d2, d3, d4, -⟩ := act_end e3 hE
    have kI2 : Kp KI I0 I2 := e5.t (FO.o fm_X7_endHour d1)
    have kJ2 : Kp KJ J0 J2 := e6.t (FO.o fm_X8_endsHour d2)
    rw [d1, d2, ob2_some, ob2_some, ob2_some, tl_e]
    refine ⟨v, I2, J2, rfl, rfl, d3, d4.trans e4, kI2, kJ2, ?_⟩
    rw [ald_n (by omega) (by omega), ob_s, q16 kJ2, a5, if_pos (show nI 0 = 0 from rfl), ald_n (by omega) (by omega), ob_s, q16 kJ2, a6, ob_s, show (2 : Int32) * nI r = nI (2 * r) from nI_mul_n 2 r, show (2 : Int32) + nI (2 * r) = nI (2 + 2 * r) from nI_addn 2 (2 * r), show p + 2 + 2 * r - p = 2 + 2 * r by omega]
  · have e0 := arg_e (x := 0) g1 hj hm g2 g3 m3 m4 (by omega)
    have e1 := arg_e (x := 1) g1 hj hm g2 g3 m3 m4 (by omega)
    have e2 := arg_e (x := 2) g1 hj hm g2 g3 m3 m4 (by omega)
    rw [i64, Nat.add_zero, b1] at e0
    rw [i64, b2] at e1
    rw [i64, b3] at e2
    rw [show fX4_argument (nI j) 0 I = _ from e0, show fX4_argument (nI j) 1 I = _ from e1, show fX4_argument (nI j) 2 I = _ from e2, ob_s, ob_s, a7, if_neg (show ¬ nI 12 = 10 by decide), if_neg (show ¬ nI 12 = 11 by decide), if_pos (show nI 12 = 12 from rfl), ob_s, ob_s, nI_1, ald_n (by omega) (by omega), ob_s, ald_n (by omega) (by omega), ob_s, j16, j16, a8, b4, if_neg (show ¬ nI 1 = 0 by decide), if_pos (show nI 1 = 1 from rfl), show nI p + 2 = nI (p + 2) from nI_addn p 2, show nI p + 3 = nI (p + 3) from nI_addn p 3, ald_n (by omega) (by omega), ob_s, ald_n (by omega) (by omega), ob_s, j16, j16, b5, b6]
    obtain ⟨v, I2, J2, d1, d2, d3, d4⟩ := act_storm (f := a) (l := b) hR (by omega) a1 (by omega) a3 (by rw [hcc, nI_ltP (by omega) (by omega)]; exact a4) (by omega)
    have kI2 : Kp KI I0 I2 := kI.t (FO.o fm_X7_storm d1)
    have kJ2 : Kp KJ J0 J2 := kJ.t (FO.o fm_X8_storms d2)
    rw [d1, d2, ob3_some, ob2_some, if_pos rfl, tl_e]
    refine ⟨v, I2, J2, rfl, rfl, d3.up (by omega), d4, kI2, kJ2, ?_⟩
    rw [ald_n (by omega) (by omega), ob_s, q16 kJ2, a8, if_neg (show ¬ nI 1 = 0 by decide), ob_s, if_pos (show nI 1 = 1 from rfl), ob_s, show p + 4 - p = 4 by omega]
    rfl
  · have e0 := arg_e (x := 0) g1 hj hm g2 g3 m3 m4 (by omega)
    rw [i64, Nat.add_zero, a5] at e0
    have hcode : ∀ {J' : Mem}, Kp KJ J0 J' → 2 ≤ y → y < 6 → (Option.bind (ald J' 316 600 (nI p)) fun x1 => Option.bind (if x1 = 0 then Option.bind (ald J' 316 600 (nI p + 1)) fun x3 => some ((2 : Int32) + 2 * x3) else Option.bind (ald J' 316 600 (nI p)) fun x2 => if x2 = 1 then some (4 : Int32) else some 2) fun x4 => some x4) = some (nI (p + 2 - p)) := fun k y1 y2 => by
      rw [ald_n (by omega) (by omega), ob_s, q16 k, a4, if_neg (show ¬ nI y = 0 from fun q => by have := (nI_eqP (b := 0) (by omega) (by omega)).mp q; omega), ob_s, if_neg (show ¬ nI y = 1 from fun q => by have := (nI_eqP (b := 1) (by omega) (by omega)).mp q; omega), ob_s, show p + 2 - p = 2 by omega]
      rfl
    rw [show fX4_argument (nI j) 0 I = _ from e0, ob_s, ob_s, a3, nI_1, ald_n (by omega) (by omega), ob_s, ald_n (by omega) (by omega), ob_s, j16, j16, a4, a6]
    rcases a7 with ⟨rfl, rfl, a7⟩ | ⟨rfl, rfl, a7, a8⟩ | ⟨rfl, rfl, a7⟩ | ⟨rfl, rfl, a7, a8⟩
    · rw [if_neg (show ¬ nI 13 = 10 by decide), if_neg (show ¬ nI 13 = 11 by decide), if_neg (show ¬ nI 13 = 12 by decide), if_pos (show nI 13 = 13 from rfl), if_neg (show ¬ nI 2 = 0 by decide), if_neg (show ¬ nI 2 = 1 by decide), if_pos (show nI 2 = 2 from rfl)]
      obtain ⟨w, I2, J2, d1, d2, d3, d4⟩ := act_remake (r := v) hR (by omega) (by rw [hcc, nI_ltP (by omega) (by omega)]; exact a7) (by omega)
      have kI2 : Kp KI I0 I2 := kI.t (FO.o fm_X7_remake d1)
      have kJ2 : Kp KJ J0 J2 := kJ.t (FO.o fm_X8_remakes d2)
      rw [d1, d2, ob3_some, ob2_some, if_pos rfl, tl_e]
      exact ⟨w, I2, J2, rfl, rfl, d3.up (by omega), d4, kI2, kJ2, by rw [← nI_1]; exact hcode kJ2 (by omega) (by omega)⟩
    · rw [if_neg (show ¬ nI 14 = 10 by decide), if_neg (show ¬ nI 14 = 11 by decide), if_neg (show ¬ nI 14 = 12 by decide), if_neg (show ¬ nI 14 = 13 by decide), if_pos (show nI 14 = 14 from rfl), if_neg (show ¬ nI 3 = 0 by decide), if_neg (show ¬ nI 3 = 1 by decide), if_neg (show ¬ nI 3 = 2 by decide), if_pos (show nI 3 = 3 from rfl)]
      obtain ⟨w, I2, J2, d1, d2, d3, d4⟩ := act_remakeBy (f := v) hR (by omega) a7 (by omega)
      have kI2 : Kp KI I0 I2 := kI.t (FO.o fm_X7_remakeBy d1)
      have kJ2 : Kp KJ J0 J2 := kJ.t (FO.o fm_X8_remakesBy d2)
      rw [d1, d2, ob3_some, ob2_some, if_pos rfl, tl_e]
      exact ⟨w, I2, J2, rfl, rfl, d3.up (by omega), d4, kI2, kJ2, by rw [← nI_1]; exact hcode kJ2 (by omega) (by omega)⟩
    · rw [if_neg (show ¬ nI 15 = 10 by decide), if_neg (show ¬ nI 15 = 11 by decide), if_neg (show ¬ nI 15 = 12 by decide), if_neg (show ¬ nI 15 = 13 by decide), if_neg (show ¬ nI 15 = 14 by decide), if_pos (show nI 15 = 15 from rfl), if_neg (show ¬ nI 4 = 0 by decide), if_neg (show ¬ nI 4 = 1 by decide), if_neg (show ¬ nI 4 = 2 by decide), if_neg (show ¬ nI 4 = 3 by decide), if_pos (show nI 4 = 4 from rfl)]
      obtain ⟨w, I2, J2, d1, d2, d3, d4⟩ := act_haul (b := v) hR (by omega) (by rw [hcc, nI_ltP (by omega) (by omega)]; exact a7) (by omega)
      have kI2 : Kp KI I0 I2 := kI.t (FO.o fm_X7_haul d1)
      have kJ2 : Kp KJ J0 J2 := kJ.t (FO.o fm_X8_hauls d2)
      rw [d1, d2, ob3_some, ob2_some, if_pos rfl, tl_e]
      exact ⟨w, I2, J2, rfl, rfl, d3.up (by omega), d4, kI2, kJ2, by rw [← nI_1]; exact hcode kJ2 (by omega) (by omega)⟩
    · rw [if_pos (show nI 10 = 10 from rfl), if_neg (show ¬ nI 5 = 0 by decide), if_neg (show ¬ nI 5 = 1 by decide), if_neg (show ¬ nI 5 = 2 by decide), if_neg (show ¬ nI 5 = 3 by decide), if_neg (show ¬ nI 5 = 4 by decide)]
      obtain ⟨w, I2, J2, d1, d2, d3, d4⟩ := act_stock (a := v) hR (by omega) a7 (by omega)
      have kI2 : Kp KI I0 I2 := kI.t (FO.o fm_X7_addStock d1)
      have kJ2 : Kp KJ J0 J2 := kJ.t (FO.o fm_X8_stocks d2)
      rw [d1, d2, ob3_some, ob2_some, if_pos rfl, tl_e]
      exact ⟨w, I2, J2, rfl, rfl, d3.up (by omega), d4, kI2, kJ2, by rw [← nI_1]; exact hcode kJ2 (by omega) (by omega)⟩
/-- the places of all commands -/
theorem SC.fn : ∀ {m s p : Nat}, SC c I J m s p → ∃ fs fp : Nat → Nat, fp 0 = 0 ∧ fs m = s ∧ fp m = p ∧ ∀ j, j < m → CM c I J j (fs j) (fs (j + 1)) (fp j) (fp (j + 1))
  | 0, s, p, ⟨h1, h2⟩ => ⟨fun _ => s, fun _ => p, h2, rfl, rfl, fun j hj => absurd hj (Nat.not_lt_zero _)⟩
  | m + 1, s, p, ⟨s0, p0, h, hM⟩ => by
    obtain ⟨fs, fp, a1, a2, a3, a4⟩ := SC.fn h
    refine ⟨fun j => if j = m + 1 then s else fs j, fun j => if j = m + 1 then p else fp j, ?_, if_pos rfl, if_pos rfl, fun j hj => ?_⟩
    · show (if 0 = m + 1 then p else fp 0) = 0
      rw [if_neg (by omega)]; exact a1
    · show CM c I J j (if j = m + 1 then s else fs j) (if j + 1 = m + 1 then s else fs (j + 1)) (if j = m + 1 then p else fp j) (if j + 1 = m + 1 then p else fp (j + 1))
      rw [if_neg (show ¬ j = m + 1 by omega), if_neg (show ¬ j = m + 1 by omega)]
      by_cases hjm : j = m
      · subst hjm
        rw [if_pos (show j + 1 = j + 1 from rfl), if_pos (show j + 1 = j + 1 from rfl), a2, a3]
        exact hM
      · rw [if_neg (show ¬ j + 1 = m + 1 by omega), if_neg (show ¬ j + 1 = m + 1 by omega)]
        exact a4 j (by omega)
theorem run_L {fs fp : Nat → Nat} (hA : ∀ j, j < m → CM c I0 J0 j (fs j) (fs (j + 1)) (fp j) (fp (j + 1))) (h1 : I0 61 0 = nI m) (hm : m ≤ 40) (h24 : J0 306 24 = nI m) (hc : I0 2 0 = nI c) (hc10 : c ≤ 10) :
    ∀ (d j n f E : Nat) (I J : Mem), j + d = m → d < n → d < f → E + d < 2 ^ 28 → Kp KI I0 I → Kp KJ J0 J → RelB E I J → ∃ r I' J', fX7_play_L15 n (nI j) I = some (r, I') ∧ fX8_play_L70 f (nI (fp j)) (nI j) J = some (r, J') ∧ RelB (E + d) I' J' := by
  intro d
  induction d with
  | zero =>
    intro j n f E I J hj hn hf hE kI kJ hR
    obtain ⟨n, rfl⟩ := fuel hn
    obtain ⟨f, rfl⟩ := fuel hf
    rw [fX7_play_L15, fX8_play_L70, show I 61 0 = nI m by rw [kI _ _ (Or.inl (by omega))]; exact h1, show J 306 24 = nI m by rw [kJ _ _ (Or.inr ⟨rfl, by omega⟩)]; exact h24, if_pos (show nI m ≤ nI j by rw [nI_leP (by omega) (by omega)]; omega), if_pos (show nI m ≤ nI j by rw [nI_leP (by omega) (by omega)]; omega)]
    exact ⟨nI j, I, J, rfl, rfl, hR⟩
  | succ d ih =>
    intro j n f E I J hj hn hf hE kI kJ hR
    obtain ⟨n, rfl⟩ := fuel hn
    obtain ⟨f, rfl⟩ := fuel hf
    rw [fX7_play_L15, fX8_play_L70, show I 61 0 = nI m by rw [kI _ _ (Or.inl (by omega))]; exact h1, show J 306 24 = nI m by rw [kJ _ _ (Or.inr ⟨rfl, by omega⟩)]; exact h24, if_neg (show ¬ nI m ≤ nI j by rw [nI_leP (by omega) (by omega)]; omega), if_neg (show ¬ nI m ≤ nI j by rw [nI_leP (by omega) (by omega)]; omega)]
    obtain ⟨v, I1, J1, e1, e2, e3, -, e5, e6, e7⟩ := run_1 (hA j (by omega)) h1 (by omega) hm hc hc10 kI kJ hR (by omega)
    have hle := (hA j (by omega)).1
    rw [e1, e2, ob3_some, ob2_some, if_pos rfl]
    by_cases hv : v < 0
    · rw [decide_eq_false (fun q => q hv), if_pos (show b2i false = 0 by decide), if_pos hv]
      exact ⟨nI j, I1, J1, rfl, rfl, e3.up (by omega)⟩
    · rw [decide_eq_true hv, if_neg (show ¬ b2i true = 0 by decide), if_neg hv, e7, ob_s, nI_addn, nI_1, show fp j + (fp (j + 1) - fp j) = fp (j + 1) by omega]
      obtain ⟨r, I', J', g1, g2, g3⟩ := ih (j + 1) n f (E + 1) I1 J1 (by omega) (by omega) (by omega) (by omega) e5 e6 e3
      exact ⟨r, I', J', g1, g2, g3.up (by omega)⟩
end RU
theorem q_2 : eqP_2 Rel := by
  intro n I J hn hR _
  obtain ⟨T, L, hX⟩ := hR.2.2.2.2.1.tx
  obtain ⟨⟨c, e, -, hW⟩, -⟩ := id hR
  have hcI : I 2 0 = nI c := hW.2.1.1
  have hcJ : J 307 0 = nI c := hW.1.1.2.2.1
  have hc2 : 2 ≤ c ∧ c ≤ 10 := ⟨hW.1.1.1, hW.1.1.2.1⟩
  unfold fX7_play fX7_readScript fX4_clear fX8_play
  rw [ast_0 (by omega) (by omega), ob_s, ob_s]
  have hXc : TX T L (wr (wr I 61 0 0) 63 0 0) (wr J 306 0 0) := ⟨hX.1, by rw [wr_n (by omega), wr_n (by omega)]; exact hX.2.1, by rw [wr_n (by omega)]; exact hX.2.2.1, fun i hi => by rw [wr_n (by omega), wr_n (by omega), wr_n (by omega)]; exact hX.2.2.2 i hi⟩
  obtain ⟨N, I1, J1, e1, e2, hS, f1, f2⟩ := begin_S hXc
  rw [e1, e2, ob_s, ob_s]
  have hN5 := hS.N5
  have iC : I1 2 0 = nI c := by rw [f1 _ _ (by omega) (by omega), wr_n (by omega), wr_n (by omega)]; exact hcI
  have hQ : QS c T L N 0 0 0 0 I1 (wr (wr J1 306 23 0) 306 24 0) := by
    refine ⟨hS.cg (fun _ _ _ _ => rfl) (fun k j q => by rw [wr_n (by omega), wr_n (by omega)]), ⟨?_, by omega, ?_, ?_, wr_s⟩, ⟨by omega, by omega, iC, ?_, hc2⟩, rfl, rfl⟩
    · rw [f1 _ _ (by omega) (by omega), wr_n (by omega), wr_s]; rfl
    · rw [f1 _ _ (by omega) (by omega), wr_s]; rfl
    · rw [wr_n (by omega), wr_s]; rfl
    · rw [wr_n (by omega), wr_n (by omega), f2 _ _ (by omega), wr_n (by omega)]; exact hcJ
  rw [iC]
  obtain ⟨ok, I2, J2, a1, a2, a3, a4, a5⟩ := play_L N 0 zF zF 0 0 0 0 _ _ rfl (Nat.zero_le _) (zF_g (by omega)) (zF_g (by omega)) hQ
  have s1 : sgI I I2 := fun k j q => by rw [a3.s k j q, f1 k j (by omega) (by omega), wr_n (by omega), wr_n (by omega)]
  have s2 : sgJ J J2 := fun k j q => by rw [a4.s k j q, wr_n (by omega), wr_n (by omega), f2 k j (by omega), wr_n (by omega)]
  rw [show fX7_readScript_L27 (nI c) zF 0 I1 = _ from a1, ob_s, ob_s, a2, ob2_some, clo_e, ob2_some]
  rcases a5 with ⟨rfl, b1, m, s, p, ⟨b2, b3, b4⟩, b5⟩ | ⟨rfl, b1⟩
  · rw [decide_eq_true b1.2.1.2.1, if_neg (show ¬ b2i true = 0 by decide), if_neg n10]
    have hR2 : RelB (7 * n) (clo I2) (wr J2 306 10 0) := clo_R hR s1 s2 (b1.2.1.2.1.trans b1.2.1.2.2.2.1.symm) (b1.2.1.2.2.1.trans b1.2.1.2.2.2.2.symm)
    have hk : ∀ k j, k ≠ 0 → k ≠ 56 → clo I2 k j = I2 k j := fun k j q1 q2 => by unfold clo; simp (disch := omega) only [wr_k]
    have hC : SC c (clo I2) (wr J2 306 10 0) m s p := b5.cg (fun x q => hk _ _ (by omega) (by omega)) (fun x q => hk _ _ (by omega) (by omega)) (fun x q => hk _ _ (by omega) (by omega)) (fun x q => wr_k (by omega))
    obtain ⟨fs, fp, c1, -, -, c4⟩ := hC.fn
    obtain ⟨r, I', J', d1, d2, d3⟩ := run_L (c := c) (m := m) (I0 := clo I2) (J0 := wr J2 306 10 0) c4 (by rw [hk _ _ (by omega) (by omega)]; exact b2) b3 (by rw [wr_j (by omega)]; exact b4) (by rw [hk _ _ (by omega) (by omega), a3 _ _ (by omega)]; exact iC) hc2.2 m 0 zF zF (7 * n) _ _ (by omega) (zF_g (by omega)) (zF_g (by omega)) (by omega) Kp.r Kp.r hR2
    rw [c1] at d2
    rw [show fX7_play_L15 zF 0 (clo I2) = _ from d1, show fX8_play_L70 zF 0 0 (wr J2 306 10 0) = _ from d2, ob2_some, ob2_some]
    exact ⟨r, I', J', rfl, rfl, d3.up (by omega)⟩
  · rw [decide_eq_false b1.1.2, if_pos (show b2i false = 0 by decide), if_pos rfl]
    exact ⟨-1, _, _, rfl, rfl, (clo_R hR s1 s2 b1.2.1 b1.2.2).up (by omega)⟩
