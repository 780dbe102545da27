/-! THE OUTPUT -/
def OUT (w : Nat) (I J : Mem) : Prop := w ≤ 400 ∧ I 0 15 = nI w ∧ J 306 26 = nI w ∧ ∀ i, i < w → I 65 i = J 317 i
def frO (I I' : Mem) : Prop := ∀ q i, ¬ (q = 65 ∨ (q = 0 ∧ i = 15)) → I' q i = I q i
def frP (J J' : Mem) : Prop := ∀ q i, ¬ (q = 317 ∨ (q = 306 ∧ i = 26)) → J' q i = J q i
theorem frO.tr {a b c : Mem} (h : frO a b) (h2 : frO b c) : frO a c := fun q i hq => (h2 q i hq).trans (h q i hq)
theorem frP.tr {a b c : Mem} (h : frP a b) (h2 : frP b c) : frP a c := fun q i hq => (h2 q i hq).trans (h q i hq)
theorem put_e {w : Nat} {I J : Mem} {x : Int32} (h : OUT w I J) (hw : w < 400) : ∃ I' J', fX7_put x I = some I' ∧ fX8_writes x J = some J' ∧ OUT (w + 1) I' J' ∧ frO I I' ∧ frP J J' := by
  obtain ⟨h1, h2, h3, h4⟩ := h
  refine ⟨wr (wr I 65 w x) 0 15 (nI (w + 1)), wr (wr J 317 w x) 306 26 (nI (w + 1)), ?_, ?_, ⟨by omega, wr_s, wr_s, fun i hi => ?_⟩, fun q i hq => ?_, fun q i hq => ?_⟩
  · unfold fX7_put
    rw [h2, ofN, if_neg (by rw [nI_leP (by omega) (by omega)]; omega), ast_n (by omega) (by omega), ob_s, wr_n (by omega), h2, nI_1]
    rfl
  · unfold fX8_writes
    rw [h3, ast_n (by omega) (by omega), ob_s, wr_n (by omega), h3, nI_1]
  · by_cases hiw : i = w
    · subst hiw; rw [wr_n (by omega), wr_s, wr_n (by omega), wr_s]
    · rw [wr_n (by omega), wr_n (by omega), wr_n (by omega), wr_n (by omega)]; exact h4 i (by omega)
  · rw [wr_n (by omega), wr_n (by omega)]
  · rw [wr_n (by omega), wr_n (by omega)]
theorem p10 {k : Nat} (hk : k ≤ 9) : 1 ≤ 10 ^ k ∧ 10 ^ k ≤ 1000000000 := by
  refine ⟨Nat.pos_of_ne_zero (by simp), ?_⟩
  have := Nat.pow_le_pow_right (n := 10) (by omega) hk
  exact this
theorem p10s (k : Nat) : 10 ^ (k + 1) / 10 = 10 ^ k := by rw [Nat.pow_succ, Nat.mul_div_cancel _ (by omega)]
theorem dvi_n {a b : Nat} (ha : a < 2 ^ 31) (hb : b < 2 ^ 31) (h0 : 0 < b) : dvi (nI a) (nI b) = some (nI (a / b)) := by
  unfold dvi
  rw [if_neg (nI_ne0 h0 hb), nI_div ha hb h0]
theorem dg_st {x k n : Nat} {f : Int32} {I : Mem} (hx : x < 2 ^ 31) (hk : k ≤ 9) (hf : f = 1 ∨ (f = 0 ∧ (0 < x / 10 ^ k % 10 ∨ k = 0))) : fX7_putNumber_L22 (nI x) (n + 1) (nI (10 ^ k)) f I = Option.bind (fX7_put (nI (48 + x / 10 ^ k % 10)) I) fun I' => fX7_putNumber_L22 (nI x) n (nI (10 ^ k / 10)) 1 I' := by
  obtain ⟨p1, p2⟩ := p10 hk
  have hd : x / 10 ^ k < 2 ^ 31 := Nat.lt_of_le_of_lt (Nat.div_le_self _ _) hx
  have hm : x / 10 ^ k % 10 < 10 := Nat.mod_lt _ (by omega)
  rw [fX7_putNumber_L22, if_neg (show ¬ nI (10 ^ k) < 1 from show ¬ nI (10 ^ k) < nI 1 by rw [nI_ltP (by omega) (by omega)]; omega), dvi_n hx (by omega) (by omega), ob_s, L10, nI_rem hd (by omega) (by omega), ob_s, dvi_n (by omega) (by omega) (by omega), show (48 : Int32) = nI 48 from rfl, nI_add]
  have h1 : (if f = 0 then (if 0 < nI (x / 10 ^ k % 10) then (1 : Int32) else if nI (10 ^ k) = 1 then 1 else 0) else 1) = 1 := by
    rcases hf with rfl | ⟨rfl, h | h⟩
    · rw [if_neg n10]
    · rw [if_pos e00, if_pos (show (0 : Int32) < nI (x / 10 ^ k % 10) from show nI 0 < nI (x / 10 ^ k % 10) by rw [nI_ltP (by omega) (by omega)]; exact h)]
    · subst h
      rw [if_pos e00]
      split
      · rfl
      · rw [if_pos (show nI (10 ^ 0) = 1 from rfl)]
  rw [plet_d, h1, if_neg n10]
  cases fX7_put (nI (48 + x / 10 ^ k % 10)) I <;> rfl
theorem dg_L {x : Nat} (hx : x < 2 ^ 31) : ∀ (k n m w : Nat) (f : Int32) (I J : Mem), k ≤ 9 → k + 1 < n → k + 1 < m → w + k < 400 → (f = 1 ∨ (f = 0 ∧ (0 < x / 10 ^ k % 10 ∨ k = 0))) → OUT w I J → ∃ I' J', fX7_putNumber_L22 (nI x) n (nI (10 ^ k)) f I = some I' ∧ fX8_writesNumber_L39 (nI x) m (nI (10 ^ k)) J = some J' ∧ OUT (w + k + 1) I' J' ∧ frO I I' ∧ frP J J' := by
  intro k
  induction k with
  | zero =>
    intro n m w f I J hk hn hm hw hf hO
    obtain ⟨n, rfl⟩ := fuel hn
    obtain ⟨m, rfl⟩ := fuel hm
    obtain ⟨n, rfl⟩ := fuel (d := 0) (n := n) (by omega)
    obtain ⟨m, rfl⟩ := fuel (d := 0) (n := m) (by omega)
    obtain ⟨I', J', a1, a2, a3, a4, a5⟩ := put_e (x := nI (48 + x / 10 ^ 0 % 10)) hO (by omega)
    refine ⟨I', J', ?_, ?_, a3, a4, a5⟩
    · rw [dg_st hx hk hf, a1, ob_s, fX7_putNumber_L22, if_pos (show nI (10 ^ 0 / 10) < 1 by decide)]
    · have hm : x / 10 ^ 0 < 2 ^ 31 := by simpa using hx
      rw [fX8_writesNumber_L39, if_neg (show ¬ nI (10 ^ 0) ≤ 0 by decide), dvi_n hx (by decide) (by decide), ob_s, L10, nI_rem hm (by omega) (by omega), ob_s, show (48 : Int32) = nI 48 from rfl, nI_add, a2, ob_s, dvi_n (by decide) (by omega) (by omega), ob_s, fX8_writesNumber_L39, if_pos (show nI (10 ^ 0 / 10) ≤ 0 by decide)]
  | succ k ih =>
    intro n m w f I J hk hn hm hw hf hO
    obtain ⟨n, rfl⟩ := fuel hn
    obtain ⟨m, rfl⟩ := fuel hm
    obtain ⟨p1, p2⟩ := p10 hk
    obtain ⟨I1, J1, a1, a2, a3, a4, a5⟩ := put_e (x := nI (48 + x / 10 ^ (k + 1) % 10)) hO (by omega)
    obtain ⟨I', J', c1, c2, c3, c4, c5⟩ := ih n m (w + 1) 1 I1 J1 (by omega) (by omega) (by omega) (by omega) (Or.inl rfl) a3
    have hd : x / 10 ^ (k + 1) < 2 ^ 31 := Nat.lt_of_le_of_lt (Nat.div_le_self _ _) hx
    refine ⟨I', J', ?_, ?_, by rw [show w + (k + 1) + 1 = w + 1 + k + 1 by omega]; exact c3, a4.tr c4, a5.tr c5⟩
    · rw [dg_st hx hk hf, a1, ob_s, p10s]
      exact c1
    · rw [fX8_writesNumber_L39, if_neg (nI_nle (by omega) (by omega)), dvi_n hx (by omega) (by omega), ob_s, L10, nI_rem hd (by omega) (by omega), ob_s, show (48 : Int32) = nI 48 from rfl, nI_add, a2, ob_s, dvi_n (by omega) (by omega) (by omega), ob_s, p10s]
      exact c2
theorem lead_L {x k : Nat} {I : Mem} (hx : x < 10 ^ (k + 1)) (hk : k ≤ 9) : ∀ (d n : Nat), k + d ≤ 9 → fX7_putNumber_L22 (nI x) (n + d) (nI (10 ^ (k + d))) 0 I = fX7_putNumber_L22 (nI x) n (nI (10 ^ k)) 0 I := by
  intro d
  induction d with
  | zero => intro n _; rfl
  | succ d ih =>
    intro n h9
    obtain ⟨p1, p2⟩ := p10 h9
    have hx2 : x < 10 ^ (k + (d + 1)) := Nat.lt_of_lt_of_le hx (Nat.pow_le_pow_right (by omega) (by omega))
    have h10 : 10 ≤ 10 ^ (k + (d + 1)) := Nat.le_trans (by decide : 10 ≤ 10 ^ 1) (Nat.pow_le_pow_right (by omega) (by omega))
    rw [← Nat.add_assoc, fX7_putNumber_L22, if_neg (show ¬ nI (10 ^ (k + (d + 1))) < 1 from show ¬ nI (10 ^ (k + (d + 1))) < nI 1 by rw [nI_ltP (by omega) (by omega)]; omega), dvi_n (by omega) (by omega) (by omega), ob_s, Nat.div_eq_of_lt hx2, L10, nI_rem (by omega) (by omega) (by omega), ob_s, dvi_n (by omega) (by omega) (by omega), plet_d, if_pos e00, if_neg (show ¬ (0 : Int32) < nI (0 % 10) by decide), if_neg (show ¬ nI (10 ^ (k + (d + 1))) = 1 by rw [nI_eq1 (by omega)]; omega), if_pos e00, ob_s, ob_s, show 10 ^ (k + (d + 1)) / 10 = 10 ^ (k + d) from p10s (k + d)]
    exact ih n (by omega)
theorem by_L {x k : Nat} (hx : x < 10 ^ (k + 1)) (hk : k ≤ 8) : ∀ (d n j : Nat), j + d = k → d < n → (j = k ∨ 10 ^ k ≤ x) → fX8_writesNumber_L23 (nI x) n (nI (10 ^ j)) = some (nI (10 ^ k)) := by
  obtain ⟨q1, q2⟩ := p10 (k := k + 1) (by omega)
  intro d
  induction d with
  | zero =>
    intro n j hj hn _
    obtain ⟨n, rfl⟩ := fuel hn
    have : j = k := by omega
    subst this
    obtain ⟨p1, p2⟩ := p10 (k := j) (by omega)
    have h9 : x / 10 ^ j ≤ 9 := by
      have : x / 10 ^ j < 10 := by
        rw [Nat.div_lt_iff_lt_mul (by omega), Nat.mul_comm]
        rw [Nat.pow_succ] at hx
        exact hx
      omega
    rw [fX8_writesNumber_L23, dvi_n (by omega) (by omega) (by omega), ob_s, L9, if_pos (by rw [nI_leP (by omega) (by omega)]; exact h9)]
  | succ d ih =>
    intro n j hj hn h
    obtain ⟨n, rfl⟩ := fuel hn
    obtain ⟨p1, p2⟩ := p10 (k := j) (by omega)
    have hge : 10 ^ (j + 1) ≤ x := Nat.le_trans (Nat.pow_le_pow_right (by omega) (by omega)) (h.resolve_left (by omega))
    have h9 : 10 ≤ x / 10 ^ j := by
      rw [Nat.le_div_iff_mul_le (by omega), Nat.mul_comm]
      rw [Nat.pow_succ] at hge
      exact hge
    have hd : x / 10 ^ j ≤ x := Nat.div_le_self _ _
    rw [fX8_writesNumber_L23, dvi_n (by omega) (by omega) (by omega), ob_s, L9, if_neg (by rw [nI_leP (by omega) (by omega)]; omega), L10, nI_mul_n, ← Nat.pow_succ]
    exact ih n (j + 1) (by omega) (by omega) (Or.inr (h.resolve_left (by omega)))
theorem abs_e {w x : Nat} {I J : Mem} (hx : x < 100000) (hO : OUT w I J) (hw : w + 5 ≤ 400) : ∃ w' I' J', w' ≤ w + 5 ∧ w < w' ∧ fX7_putNumber_L22 (nI x) zF 1000000000 0 I = some I' ∧ (Option.bind (fX8_writesNumber_L23 (nI x) zF (1 : Int32)) fun x5 => Option.bind (fX8_writesNumber_L39 (nI x) zF x5 J) fun J10 => some J10) = some J' ∧ OUT w' I' J' ∧ frO I I' ∧ frP J J' := by
  have hk : ∃ k, k ≤ 4 ∧ x < 10 ^ (k + 1) ∧ (k = 0 ∨ 10 ^ k ≤ x) := by
    by_cases h1 : x < 10
    · exact ⟨0, by omega, by simpa using h1, Or.inl rfl⟩
    by_cases h2 : x < 100
    · exact ⟨1, by omega, by simpa using h2, Or.inr (by simp; omega)⟩
    by_cases h3 : x < 1000
    · exact ⟨2, by omega, by simpa using h3, Or.inr (by simp; omega)⟩
    by_cases h4 : x < 10000
    · exact ⟨3, by omega, by simpa using h4, Or.inr (by simp; omega)⟩
    · exact ⟨4, by omega, by simpa using hx, Or.inr (by simp; omega)⟩
  obtain ⟨k, hk4, hk1, hk2⟩ := hk
  obtain ⟨p1, p2⟩ := p10 (k := k) (by omega)
  have hdig : 0 < x / 10 ^ k % 10 ∨ k = 0 := by
    rcases hk2 with h | h
    · exact Or.inr h
    · refine Or.inl ?_
      have h1 : 1 ≤ x / 10 ^ k := (Nat.le_div_iff_mul_le (by omega)).mpr (by omega)
      have h2 : x / 10 ^ k < 10 := by
        rw [Nat.div_lt_iff_lt_mul (by omega), Nat.mul_comm]
        rw [Nat.pow_succ] at hk1
        exact hk1
      rw [Nat.mod_eq_of_lt h2]
      exact h1
  obtain ⟨I', J', a1, a2, a3, a4, a5⟩ := dg_L (x := x) (by omega) k (4000 - (9 - k)) zF w 0 I J (by omega) (by omega) (zF_g (by omega)) (by omega) (Or.inr ⟨rfl, hdig⟩) hO
  refine ⟨w + k + 1, I', J', by omega, by omega, ?_, ?_, a3, a4, a5⟩
  · have := lead_L (x := x) (k := k) (I := I) hk1 (by omega) (9 - k) (4000 - (9 - k)) (by omega)
    rw [show 4000 - (9 - k) + (9 - k) = zF by unfold zF; omega, show k + (9 - k) = 9 by omega] at this
    rw [show (1000000000 : Int32) = nI (10 ^ 9) from rfl, this]
    exact a1
  · have := by_L (x := x) (k := k) hk1 (by omega) k zF 0 (by omega) (zF_g (by omega)) (hk2.imp (fun h => by omega) id)
    rw [show fX8_writesNumber_L23 (nI x) zF 1 = _ from this, ob_s, a2]
    rfl
theorem num_e {w : Nat} {I J : Mem} {v : Int32} (hv : bd (-99999) 99999 v) (hO : OUT w I J) (hw : w + 6 ≤ 400) : ∃ w' I' J', w' ≤ w + 6 ∧ (0 ≤ v → w' ≤ w + 5) ∧ w < w' ∧ fX7_putNumber v I = some I' ∧ fX8_writesNumber v J = some J' ∧ OUT w' I' J' ∧ frO I I' ∧ frP J J' := by
  unfold bd at hv
  unfold fX7_putNumber fX8_writesNumber
  by_cases h0 : 0 ≤ v
  · obtain ⟨x, hx, rfl⟩ := nI_of (x := v) (nlt_of_le h0)
    have hx2 : x < 100000 := by rw [nI_toInt hx] at hv; omega
    obtain ⟨w', I', J', a0, a0', a1, a2, a3, a4, a5⟩ := abs_e hx2 hO (by omega)
    refine ⟨w', I', J', by omega, fun _ => a0, a0', ?_, ?_, a3, a4, a5⟩
    · rw [if_pos h0, ob2_some, a1]
      rfl
    · rw [if_pos h0, ob_s, if_pos h0, plet_d]
      exact a2
  · have hneg : v.toInt < 0 := by rw [toInt_le, toInt_0] at h0; omega
    have hx : ∃ x : Nat, x < 100000 ∧ -v = nI x := by
      refine ⟨(-v.toInt).toNat, by omega, ?_⟩
      apply Int32.toInt_inj.mp
      rw [nI_toInt (by omega), Int32.toInt_neg, Int.bmod_def]
      omega
    obtain ⟨x, hx2, hxe⟩ := hx
    obtain ⟨I1, J1, b1, b2, b3, b4, b5⟩ := put_e (x := 45) hO (by omega)
    obtain ⟨w', I', J', a0, a0', a1, a2, a3, a4, a5⟩ := abs_e hx2 b3 (by omega)
    refine ⟨w', I', J', by omega, fun h => absurd h h0, by omega, ?_, ?_, a3, b4.tr a4, b5.tr a5⟩
    · rw [if_neg h0, b1, ob_s, ob2_some, hxe, a1]
      rfl
    · rw [if_neg h0, b2, ob_s, ob_s, if_neg h0, plet_d, hxe]
      exact a2
theorem ws_L {c e : Nat} {I0 J0 : Mem} (hW : EW c e I0 1 (J0 307)) : ∀ (d j n m w : Nat) (I J : Mem), j + d = c → d < n → d < m → w ≤ 8 * j → OUT w I J → frO I0 I → frP J0 J → ∃ w' I' J', fX7_writeString_L18 (nI c) n (nI j) I = some I' ∧ fX8_writeString_L12 m (nI j) J = some J' ∧ OUT w' I' J' ∧ frO I0 I' ∧ frP J0 J' := by
  have h10 := hW.c10
  have hbr : I0 12 0 = bsl (broB (J0 307)) 0 (c - 1) 0 := hW.2.1.2.2.2.2.2.2.2.2.2.2.1
  intro d
  induction d with
  | zero =>
    intro j n m w I J hj hn hm hw hO hI hJ
    obtain ⟨n, rfl⟩ := fuel hn
    obtain ⟨m, rfl⟩ := fuel hm
    refine ⟨w, I, J, ?_, ?_, hO, hI, hJ⟩
    · rw [fX7_writeString_L18, if_pos (by rw [nI_leP (by omega) (by omega)]; omega)]
    · rw [fX8_writeString_L12, ald_0 (by omega) (by omega), hJ _ _ (by omega), hW.1.1.2.2.1, ob_s, if_pos (by rw [nI_leP (by omega) (by omega)]; omega)]
  | succ d ih =>
    intro j n m w I J hj hn hm hw hO hI hJ
    obtain ⟨n, rfl⟩ := fuel hn
    obtain ⟨m, rfl⟩ := fuel hm
    have e7 : I0 7 j = J0 307 (52 + j) := (hW.2.2.1 j (by omega)).2.2.2.2.1
    have t2 := (hW.1.2.1 j (by omega)).2.2.2.1
    obtain ⟨w1, I1, J1, a0, a0', a0'', a1, a2, a3, a4, a5⟩ := num_e (v := nI j) (by unfold bd; rw [nI_toInt (by omega)]; omega) hO (by omega)
    have b0 := a0' (nI_pos' (by omega))
    have i1 := hI.tr a4
    have j1 := hJ.tr a5
    have hlet : ∀ t : Int32, fX7_letterOf t = some (if t = 0 then 84 else if t = 1 then 83 else 68) := fun t => by
      unfold fX7_letterOf
      rw [plet_d]
      split
      · rfl
      · split <;> rfl
    obtain ⟨I2, J2, b1, b2, b3, b4, b5⟩ := put_e (x := if J0 307 (52 + j) = 0 then 84 else if J0 307 (52 + j) = 1 then 83 else 68) a3 (by omega)
    have i2 := i1.tr b4
    have j2 := j1.tr b5
    have ncj : ¬ nI c ≤ nI j := by rw [nI_leP (by omega) (by omega)]; omega
    have els' : (if J0 307 (52 + j) = 0 then some (84 : Int32) else Option.bind (some (J0 307 (52 + j))) fun x4 => if x4 = (1 : Int32) then some (83 : Int32) else some (68 : Int32)) = some (if J0 307 (52 + j) = 0 then 84 else if J0 307 (52 + j) = 1 then 83 else 68) := by
      split
      · rfl
      · rw [ob_s]
        split <;> rfl
    rw [fX7_writeString_L18, if_neg ncj, a1, ob_s, ald_n (by omega) (by omega), ob_s, i1 7 j (by omega), e7, hlet, ob_s, b1, ob_s, nI_sub1 (by omega) (by omega), fX8_writeString_L12, ald_0 (by omega) (by omega), hJ _ _ (by omega), hW.1.1.2.2.1, a2, L52, nI_add]
    simp only [ob_s]
    rw [if_neg ncj, ald_n (by omega) (by omega), j1 _ _ (by omega)]
    simp only [ob_s]
    rw [show (if J0 307 (52 + j) = 0 then some (84 : Int32) else if J0 307 (52 + j) = (1 : Int32) then some (83 : Int32) else some (68 : Int32)) = some (if J0 307 (52 + j) = 0 then 84 else if J0 307 (52 + j) = 1 then 83 else 68) by rw [ob_s] at els'; exact els', ob_s, b2, ob_s, ald_0 (by omega) (by omega), j2 _ _ (by omega), hW.1.1.2.2.1, ob_s, nI_1]
    by_cases hl : c ≤ j + 1
    · rw [if_pos (show nI (c - 1) ≤ nI j by rw [nI_leP (by omega) (by omega)]; omega), if_pos (show nI c ≤ nI (j + 1) by rw [nI_leP (by omega) (by omega)]; omega), ob_s, ob_s]
      exact ih (j + 1) n m (w1 + 1) I2 J2 (by omega) (by omega) (by omega) (by omega) b3 i2 j2
    · have w3 := hW.1.2.2.1 j (by omega)
      have sep : (if b2i (broB (J0 307) j) = 0 then (45 : Int32) else 32) = if J0 307 (132 + j) = 0 then 45 else 32 := by
        unfold broB
        rcases w3 with h | h <;> rw [h] <;> rfl
      obtain ⟨I3, J3, d1, d2, d3, d4, d5⟩ := put_e (x := if J0 307 (132 + j) = 0 then 45 else 32) b3 (by omega)
      rw [if_neg (show ¬ nI (c - 1) ≤ nI j by rw [nI_leP (by omega) (by omega)]; omega), if_neg (show ¬ nI c ≤ nI (j + 1) by rw [nI_leP (by omega) (by omega)]; omega), i2 12 0 (by omega), hbr, has7 (by omega), ob_s, has_bsl (show j < c - 1 by omega) (by omega), sep, plet_d, d1, ob_s, ob_s, L132, nI_add, ald_n (by omega) (by omega), ob_s, j2 _ _ (by omega), plet_d, d2, ob_s, ob_s]
      exact ih (j + 1) n m (w1 + 1 + 1) I3 J3 (by omega) (by omega) (by omega) (by omega) d3 (i2.tr d4) (j2.tr d5)
theorem RelB.out {E w : Nat} {I I' J J' : Mem} (h : RelB E I J) (hO : OUT w I' J') (hI : ∀ q i, ¬ (q = 65 ∨ (q = 0 ∧ i = 15)) → I' q i = I q i) (hJ : ∀ q i, ¬ (q = 317 ∨ (q = 306 ∧ (i = 26 ∨ i = 0))) → J' q i = J q i) : RelB E I' J' := by
  obtain ⟨hS, hU, hV, hA, hT, hE2, -⟩ := h
  exact ⟨hS.cong (Nat.le_refl _) (fun k j h1 h2 => hI _ _ (by omega)) (fun j => hJ _ _ (by omega)), hU.cong (Nat.le_refl _) (fun k j h1 h2 => hI _ _ (by omega)) (hI _ _ (by omega)) (hI _ _ (by omega)) (fun j => hJ _ _ (by omega)) (hJ _ _ (by omega)), hV.cong (Nat.le_refl _) (fun k j h1 h2 => hI _ _ (by omega)) (hI _ _ (by omega)) (fun j => hJ _ _ (by omega)) (fun j => hJ _ _ (by omega)), hA.cong (fun j => hI _ _ (by omega)) (fun j => hJ _ _ (by omega)), hT.cong (fun j => hI _ _ (by omega)) (hI _ _ (by omega)) (fun j => hJ _ _ (by omega)) (hJ _ _ (by omega)), hE2.cong (hI _ _ (by omega)) (hI _ _ (by omega)) (hJ _ _ (by omega)) (hJ _ _ (by omega)), w, hO⟩
theorem out0 {I J : Mem} : OUT 0 (wr I 0 15 0) (wr (wr J 306 0 0) 306 26 0) := ⟨by omega, wr_s, wr_s, fun i hi => absurd hi (by omega)⟩
theorem q_39 : eqP_39 Rel := by
  intro n I J hn hR _
  obtain ⟨c, e, ⟨h2, h10, h30, he⟩, ⟨J0, J5, J6⟩, ⟨I0, I7⟩, hW⟩ := hR.facts hn
  have hW0 : EW c e (wr I 0 15 0) 1 (wr (wr J 306 0 0) 306 26 0 307) := hW.cong (fun k j hr => wr_n (by omega)) (fun i hi => by rw [wr_n (by omega), wr_n (by omega)])
  obtain ⟨w, I', J', a1, a2, a3, a4, a5⟩ := ws_L hW0 c 0 zF zF 0 (wr I 0 15 0) (wr (wr J 306 0 0) 306 26 0) (by omega) (zF_g (by omega)) (zF_g (by omega)) (by omega) out0 (fun _ _ _ => rfl) (fun _ _ _ => rfl)
  have hRR : RelB (7 * n) I' J' := RelB.out hR a3 (fun q i h => (a4 q i h).trans (wr_n (by omega))) (fun q i h => (a5 q i (by omega)).trans (by rw [wr_n (by omega), wr_n (by omega)]))
  refine ⟨nI w, I', J', ?_, ?_, RelB.cong (by omega) (fun _ _ _ => rfl) (fun _ _ _ => rfl) hRR⟩
  · unfold fX7_writeString
    rw [show wr I 0 15 0 2 0 = nI c from (wr_n (by omega)).trans I0, show fX7_writeString_L18 (nI c) zF 0 (wr I 0 15 0) = _ from a1, ob_s, a3.2.1]
  · unfold fX8_writeString
    rw [show fX8_writeString_L12 zF 0 (wr (wr J 306 0 0) 306 26 0) = _ from a2, ob_s, a3.2.2.1]
theorem wh_L {c e : Nat} {I0 J0 : Mem} (hW : EW c e I0 1 (J0 307)) (h20 : e < 100000) : ∀ (d h n m w : Nat) (I J : Mem), e ≤ h + 24 → h + d = e → d < n → d < m → w + 13 * d ≤ 312 → (h = e - 24 → w = 0) → (e - 24 < h → 0 < w) → OUT w I J → frO I0 I → frP J0 J → ∃ w' I' J', fX7_writeHours_L13 n (nI h) I = some I' ∧ fX8_writeHours_L15 m (nI h) J = some J' ∧ OUT w' I' J' ∧ frO I0 I' ∧ frP J0 J' := by
  have I7 : I0 1 7 = nI e := hW.2.1.2.2.2.2.2.1.trans hW.1.1.2.2.2.1
  have K5 : J0 307 5 = nI e := hW.1.1.2.2.2.1
  have K6 : J0 307 6 = nI (min e 24) := hW.1.1.2.2.2.2.1
  intro d
  induction d with
  | zero =>
    intro h n m w I J h24 hd hn hm hw hz hp' hO hI hJ
    obtain ⟨n, rfl⟩ := fuel hn
    obtain ⟨m, rfl⟩ := fuel hm
    refine ⟨w, I, J, ?_, ?_, hO, hI, hJ⟩
    · rw [fX7_writeHours_L13, hI _ _ (by omega), I7, if_pos (by rw [nI_leP (by omega) (by omega)]; omega)]
    · rw [fX8_writeHours_L15, L5, ald_n (by omega) (by omega), hJ _ _ (by omega), K5, ob_s, if_pos (by rw [nI_leP (by omega) (by omega)]; omega)]
  | succ d ih =>
    intro h n m w I J h24 hd hn hm hw hz hp' hO hI hJ
    obtain ⟨n, rfl⟩ := fuel hn
    obtain ⟨m, rfl⟩ := fuel hm
    have k : kept e h := by unfold kept; omega
    have hr : h % 24 < 24 := Nat.mod_lt _ (by omega)
    have e3 : I0 18 (h % 24) = J0 307 (hp e h + 2) := (hW.2.2.2.2 h k).2.2.1
    have e4 : I0 19 (h % 24) = J0 307 (hp e h + 5) := (hW.2.2.2.2 h k).2.2.2.1
    have wq := hW.1.2.2.2 h k
    have lv := wq.2.2.1
    have lb := wq.2.2.2.1
    have neh : ¬ nI e ≤ nI h := by rw [nI_leP (by omega) (by omega)]; omega
    -- the space
    have sp : ∃ w1 I1 J1, (if I 0 15 ≤ 0 then some I else Option.bind (fX7_put 32 I) fun I3 => some I3) = some I1 ∧ (if nI h ≤ nI (e - 24) then some J else Option.bind (fX8_writes 32 J) fun J4 => some J4) = some J1 ∧ w1 ≤ w + 1 ∧ OUT w1 I1 J1 ∧ frO I0 I1 ∧ frP J0 J1 := by
      by_cases hf : h = e - 24
      · have hw0 := hz hf
        subst hw0
        refine ⟨0, I, J, ?_, ?_, by omega, hO, hI, hJ⟩
        · rw [hO.2.1, if_pos (show nI 0 ≤ 0 by decide)]
        · rw [if_pos (by rw [nI_leP (by omega) (by omega)]; omega)]
      · have hwp := hp' (by omega)
        obtain ⟨I1, J1, a1, a2, a3, a4, a5⟩ := put_e (x := 32) hO (by omega)
        refine ⟨w + 1, I1, J1, ?_, ?_, by omega, a3, hI.tr a4, hJ.tr a5⟩
        · rw [hO.2.1, if_neg (nI_nle hwp (by omega)), a1]; rfl
        · rw [if_neg (by rw [nI_leP (by omega) (by omega)]; omega), a2]; rfl
    obtain ⟨w1, I1, J1, s1, s2, s3, s4, i1, j1⟩ := sp
    obtain ⟨w2, I2, J2, a0, a0', a0'', a1, a2, a3, a4, a5⟩ := num_e (v := nI h) (by unfold bd; rw [nI_toInt (by omega)]; omega) s4 (by omega)
    have b0 := a0' (nI_pos' (by omega))
    have i2 := i1.tr a4
    have j2 := j1.tr a5
    have of2 : fX8_of (nI h) 2 J2 = some (J0 307 (hp e h + 2)) := (of_e (w := 2) ((j2 _ _ (by omega)).trans K5) ((j2 _ _ (by omega)).trans K6) (by omega) k (by omega)).trans (by rw [j2 _ _ (by omega)])
    have fh : fX8_firstHour J = some (nI (e - 24)) := fh_e ((hJ _ _ (by omega)).trans K5) ((hJ _ _ (by omega)).trans K6) (by omega)
    rw [fX7_writeHours_L13, hI _ _ (by omega), I7, if_neg neh, row_e (by omega), ob_s, s1, ob_s, a1, ob_s, ald_n hr (by omega), ob_s, i2 _ _ (by omega), e3, fX8_writeHours_L15, L5, ald_n (by omega) (by omega), hJ _ _ (by omega), K5, fh, nI_1]
    simp only [ob_s]
    rw [if_neg neh, s2, ob_s, a2, ob_s, of2, ob_s]
    rcases lv with lv | lv
    · obtain ⟨I3, J3, b1, b2, b3, b4, b5⟩ := put_e (x := 63) a3 (by omega)
      rw [lv, if_neg n01, if_pos e00, b1, ob_s, ob_s, b2, ob_s, ob_s]
      exact ih (h + 1) n m (w2 + 1) I3 J3 (by omega) (by omega) (by omega) (by omega) (by omega) (by omega) (fun _ => by omega) b3 (i2.tr b4) (j2.tr b5)
    · obtain ⟨I3, J3, b1, b2, b3, b4, b5⟩ := put_e (x := 61) a3 (by omega)
      have i3 := i2.tr b4
      have j3 := j2.tr b5
      have of5 : fX8_of (nI h) (nI 5) J3 = some (J0 307 (hp e h + 5)) := (of_e (w := 5) ((j3 _ _ (by omega)).trans K5) ((j3 _ _ (by omega)).trans K6) (by omega) k (by omega)).trans (by rw [j3 _ _ (by omega)])
      obtain ⟨w4, I4, J4, d0, d0', d0'', d1, d2, d3, d4, d5⟩ := num_e (v := J0 307 (hp e h + 5)) (by unfold bd at *; omega) b3 (by omega)
      rw [lv, if_pos e11, if_neg n10, b1, ob_s, ald_n hr (by omega), ob_s, i3 _ _ (by omega), e4, d1, ob_s, ob_s, b2, ob_s, of5, ob_s, d2, ob_s, ob_s]
      exact ih (h + 1) n m w4 I4 J4 (by omega) (by omega) (by omega) (by omega) (by omega) (by omega) (fun _ => by omega) d3 (i3.tr d4) (j3.tr d5)
theorem q_40 : eqP_40 Rel := by
  intro n I J hn hR _
  obtain ⟨c, e, ⟨h2, h10, h30, he⟩, ⟨J0, J5, J6⟩, ⟨I0, I7⟩, hW⟩ := hR.facts hn
  have hW0 : EW c e (wr I 0 15 0) 1 (wr (wr J 306 0 0) 306 26 0 307) := hW.cong (fun k j hr => wr_n (by omega)) (fun i hi => by rw [wr_n (by omega), wr_n (by omega)])
  obtain ⟨w, I', J', a1, a2, a3, a4, a5⟩ := wh_L hW0 (by omega) (min e 24) (e - 24) zF zF 0 (wr I 0 15 0) (wr (wr J 306 0 0) 306 26 0) (by omega) (by omega) (zF_g (by omega)) (zF_g (by omega)) (by omega) (fun _ => rfl) (fun h => absurd h (by omega)) out0 (fun _ _ _ => rfl) (fun _ _ _ => rfl)
  have hRR : RelB (7 * n) I' J' := RelB.out hR a3 (fun q i h => (a4 q i h).trans (wr_n (by omega))) (fun q i h => (a5 q i (by omega)).trans (by rw [wr_n (by omega), wr_n (by omega)]))
  refine ⟨nI w, I', J', ?_, ?_, RelB.cong (by omega) (fun _ _ _ => rfl) (fun _ _ _ => rfl) hRR⟩
  · unfold fX7_writeHours
    rw [fk_e (b := 1) (I := wr I 0 15 0) ((wr_n (by omega)).trans I7) h30, ob_s, a1, ob_s, a3.2.1]
  · unfold fX8_writeHours
    rw [fh_e (J := wr (wr J 306 0 0) 306 26 0) (by rw [wr_n (by omega), wr_n (by omega)]; exact J5) (by rw [wr_n (by omega), wr_n (by omega)]; exact J6) h30, ob_s, a2, ob_s, a3.2.2.1]
