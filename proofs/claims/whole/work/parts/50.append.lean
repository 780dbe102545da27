/-! APPEND: four bytes at a time -/
theorem by_t (x : Int32) : ∃ t, t < 256 ∧ (x &&& 255) = nI t := by
  obtain ⟨n, hn, h⟩ := set10 (x := x &&& 255) (fun i hi => by rw [b_and, b_255, decide_eq_false (by omega), Bool.and_false])
  have h8 : bt (nI n) 8 = false := by rw [← h, b_and, b_255, decide_eq_false (by omega), Bool.and_false]
  have h9 : bt (nI n) 9 = false := by rw [← h, b_and, b_255, decide_eq_false (by omega), Bool.and_false]
  exact ⟨n, (by decide +kernel : ∀ n, n < 1024 → bt (nI n) 8 = false → bt (nI n) 9 = false → n < 256) n hn h8 h9, h⟩
theorem by_8 (x : Int32) : x.toInt8.toInt32.toInt8.toInt32 = (x &&& 255).toInt8.toInt32 := by
  have e1 : x.toInt8.toInt32.toInt8 = x.toInt8 := by simp
  have e2 : (x &&& 255).toInt8 = x.toInt8 := by
    apply Int8.toBitVec_inj.mp
    simp only [Int32.toBitVec_toInt8, Int32.toBitVec_and]
    apply BitVec.eq_of_getLsbD_eq
    intro i hi
    simp only [BitVec.getLsbD_signExtend, BitVec.getLsbD_and]
    have := b_255 i
    unfold bt at this
    rw [this]
    simp [hi, show i < 32 by omega]
  rw [e1, e2]
/-- one text on both sides: L bytes -/
def TX (T : Nat → Nat) (L : Nat) (I J : Mem) : Prop := L ≤ 500 ∧ I 56 1 = nI L ∧ J 306 10 = nI L ∧ ∀ i, i < L → 1 ≤ T i ∧ T i ≤ 255 ∧ I 57 i = nI (T i) ∧ J 314 i = (nI (T i)).toInt8.toInt32
theorem RelT.tx {I J : Mem} (h : RelT I J) : ∃ T L, TX T L I J := by
  obtain ⟨L, h1, h2, h3, h4⟩ := h
  refine ⟨fun i => if h : i < L then (h4 i h).choose else 0, L, h1, h2, h3, fun i hi => ?_⟩
  simp only [dif_pos hi]
  exact (h4 i hi).choose_spec
theorem TX.rel {T : Nat → Nat} {L : Nat} {I J : Mem} (h : TX T L I J) : RelT I J :=
  ⟨L, h.1, h.2.1, h.2.2.1, fun i hi => ⟨T i, h.2.2.2 i hi⟩⟩
def bya (a : Int32) (s : Int32) : Int32 := (a >>> (s &&& 31)) &&& 255
def nz (a s : Int32) : Nat := if bya a s = 0 then 0 else 1
def cnt (a : Int32) : Nat := nz a 24 + nz a 16 + nz a 8 + nz a 0
theorem nz_1 {a s : Int32} : nz a s ≤ 1 := by unfold nz; split <;> omega
theorem cnt_4 {a : Int32} : cnt a ≤ 4 := by
  have h1 := @nz_1 a 24
  have h2 := @nz_1 a 16
  have h3 := @nz_1 a 8
  have h4 := @nz_1 a 0
  unfold cnt
  omega
theorem nz_e7 {a s x : Int32} : (if ((a >>> (s &&& 31)) &&& 255) = 0 then x else x + 1) = x + nI (nz a s) := by
  unfold nz bya
  split
  · exact (Int32.add_zero x).symm
  · rfl
theorem nz_e8 {a s : Int32} : (if ((a >>> (s &&& 31)) &&& 255) = 0 then (0 : Int32) else 1) = nI (nz a s) := by
  unfold nz bya
  split <;> rfl
theorem bs7 {a s x : Int32} {n : Nat} (hs : ¬ s < 0) : fX7_bytesIn_L5 a (n + 1) s x = fX7_bytesIn_L5 a n (s + -8) (x + nI (nz a s)) := by
  rw [fX7_bytesIn_L5, if_neg hs, plet_d, nz_e7]
theorem bin7 {a : Int32} : fX7_bytesIn a = some (nI (cnt a)) := by
  unfold fX7_bytesIn
  rw [show zF = 3995 + 1 + 1 + 1 + 1 + 1 from rfl]
  rw [bs7 (by decide), show (24 : Int32) + -8 = 16 by decide, bs7 (by decide), show (16 : Int32) + -8 = 8 by decide, bs7 (by decide), show (8 : Int32) + -8 = 0 by decide, bs7 (by decide), show (0 : Int32) + -8 = -8 by decide, fX7_bytesIn_L5, if_pos (by decide), ob_s]
  rw [show (0 : Int32) = nI 0 from rfl, nI_addn, nI_addn, nI_addn, nI_addn]
  unfold cnt
  rw [show nz a (nI 0) = nz a 0 from rfl]
  congr 2
  omega
theorem bs8 {a s x : Int32} {n : Nat} (hs : ¬ s < 0) : fX8_bytesIn_L5 a (n + 1) s x = fX8_bytesIn_L5 a n (s + -8) (x + nI (nz a s)) := by
  rw [fX8_bytesIn_L5, if_neg hs, plet_d, nz_e8]
theorem bin8 {a : Int32} : fX8_bytesIn a = some (nI (cnt a)) := by
  unfold fX8_bytesIn
  rw [show zF = 3995 + 1 + 1 + 1 + 1 + 1 from rfl]
  rw [bs8 (by decide), show (24 : Int32) + -8 = 16 by decide, bs8 (by decide), show (16 : Int32) + -8 = 8 by decide, bs8 (by decide), show (8 : Int32) + -8 = 0 by decide, bs8 (by decide), show (0 : Int32) + -8 = -8 by decide, fX8_bytesIn_L5, if_pos (by decide), ob_s]
  rw [show (0 : Int32) = nI 0 from rfl, nI_addn, nI_addn, nI_addn, nI_addn]
  unfold cnt
  rw [show nz a (nI 0) = nz a 0 from rfl]
  congr 2
  omega
/-- what appending leaves as it is -/
def apI (I I' : Mem) : Prop := ∀ k j, ¬ (k = 57 ∨ k = 56 ∧ j = 1) → I' k j = I k j
def apJ (J J' : Mem) : Prop := ∀ k j, ¬ (k = 314 ∨ k = 306 ∧ j = 10) → J' k j = J k j
theorem ap_1 {a s : Int32} {T : Nat → Nat} {L : Nat} {I J : Mem} (h : TX T L I J) (hL : L + nz a s ≤ 500) {n m : Nat} (hs : ¬ s < 0) : ∃ T' I' J', TX T' (L + nz a s) I' J' ∧ apI I I' ∧ apJ J J' ∧ fX2_addBytes_L3 a (n + 1) s I = fX2_addBytes_L3 a n (s + -8) I' ∧ fX8_puts_L3 a (m + 1) s J = fX8_puts_L3 a m (s + -8) J' := by
  obtain ⟨h1, h2, h3, h4⟩ := h
  rw [fX2_addBytes_L3, fX8_puts_L3, if_neg hs, if_neg hs]
  unfold nz bya at *
  by_cases hz : ((a >>> (s &&& 31)) &&& 255) = 0
  · rw [if_pos hz] at *
    simp only [if_pos hz]
    exact ⟨T, I, J, ⟨h1, h2, h3, h4⟩, fun _ _ _ => rfl, fun _ _ _ => rfl, rfl, rfl⟩
  · rw [if_neg hz] at *
    simp only [if_neg hz]
    obtain ⟨t, ht, e⟩ := by_t (a >>> (s &&& 31))
    have ht0 : t ≠ 0 := fun h0 => hz (by rw [e, h0]; rfl)
    rw [h2, h3, if_neg (show ¬ (500 : Int32) ≤ nI L from show ¬ nI 500 ≤ nI L by rw [nI_leP (by omega) (by omega)]; omega), ast_n (by omega) (by omega), ast_n (by omega) (by omega), by_8, e]
    refine ⟨fun i => if i = L then t else T i, _, _, ⟨hL, ?_, ?_, fun i hi => ?_⟩, ?_, ?_, rfl, rfl⟩
    · simp (disch := omega) only [wr_s, wr_n, h2, nI_1]
    · simp (disch := omega) only [wr_s, wr_n, h3, nI_1]
    · by_cases hi2 : i = L
      · subst hi2
        simp (disch := omega) only [wr_s, wr_n, if_true]
        exact ⟨by omega, by omega, trivial, trivial⟩
      · simp (disch := omega) only [wr_n, if_neg hi2]
        exact h4 i (by omega)
    · intro k j hk
      simp (disch := omega) only [wr_n]
    · intro k j hk
      simp (disch := omega) only [wr_n]
theorem ap_4 {a : Int32} {T : Nat → Nat} {L : Nat} {I J : Mem} (h : TX T L I J) (hL : L + cnt a ≤ 500) : ∃ T' I' J', TX T' (L + cnt a) I' J' ∧ apI I I' ∧ apJ J J' ∧ fX2_addBytes a I = some I' ∧ fX8_puts a J = some J' := by
  unfold cnt at *
  unfold fX2_addBytes fX8_puts
  rw [show zF = 3995 + 1 + 1 + 1 + 1 + 1 from rfl]
  obtain ⟨T1, I1, J1, x1, a1, b1, c1, d1⟩ := ap_1 (a := a) (s := 24) (n := 3999) (m := 3999) h (by omega) (by decide)
  obtain ⟨T2, I2, J2, x2, a2, b2, c2, d2⟩ := ap_1 (a := a) (s := 16) (n := 3998) (m := 3998) x1 (by omega) (by decide)
  obtain ⟨T3, I3, J3, x3, a3, b3, c3, d3⟩ := ap_1 (a := a) (s := 8) (n := 3997) (m := 3997) x2 (by omega) (by decide)
  obtain ⟨T4, I4, J4, x4, a4, b4, c4, d4⟩ := ap_1 (a := a) (s := 0) (n := 3996) (m := 3996) x3 (by omega) (by decide)
  refine ⟨T4, I4, J4, by rw [← Nat.add_assoc, ← Nat.add_assoc, ← Nat.add_assoc]; exact x4, fun k j q => ?_, fun k j q => ?_, ?_, ?_⟩
  · rw [a4 k j q, a3 k j q, a2 k j q, a1 k j q]
  · rw [b4 k j q, b3 k j q, b2 k j q, b1 k j q]
  · rw [c1, show (24 : Int32) + -8 = 16 by decide, c2, show (16 : Int32) + -8 = 8 by decide, c3, show (8 : Int32) + -8 = 0 by decide, c4]
    rfl
  · rw [d1, show (24 : Int32) + -8 = 16 by decide, d2, show (16 : Int32) + -8 = 8 by decide, d3, show (8 : Int32) + -8 = 0 by decide, d4]
    rfl
theorem q_0 : eqP_0 Rel := by
  intro n I J hn hR p0 p1 p2 p3 p4
  obtain ⟨hS, hU, hV, hA, hT, hE, hO⟩ := hR
  obtain ⟨T, L, hX⟩ := hT.tx
  have hX0 : TX T L I (wr J 306 0 0) := ⟨hX.1, hX.2.1, by rw [wr_n (by omega)]; exact hX.2.2.1, fun i hi => by rw [wr_n (by omega)]; exact hX.2.2.2 i hi⟩
  have k0 := @cnt_4 p0
  have k1 := @cnt_4 p1
  have k2 := @cnt_4 p2
  have k3 := @cnt_4 p3
  have k4 := @cnt_4 p4
  have hL := hX.1
  unfold fX7_append fX8_append
  simp only [bin7, bin8, ob_s, plet_d]
  rw [hX.2.1, hX0.2.2.1]
  simp only [nI_addn]
  have g1 : (nI (L + (cnt p0 + cnt p1 + cnt p2 + cnt p3 + cnt p4)) ≤ 500) = (L + (cnt p0 + cnt p1 + cnt p2 + cnt p3 + cnt p4) ≤ 500) := nI_leP (b := 500) (by omega) (by omega)
  have g2 : (nI (L + cnt p0 + cnt p1 + cnt p2 + cnt p3 + cnt p4) ≤ 500) = (L + cnt p0 + cnt p1 + cnt p2 + cnt p3 + cnt p4 ≤ 500) := nI_leP (b := 500) (by omega) (by omega)
  by_cases h : L + (cnt p0 + cnt p1 + cnt p2 + cnt p3 + cnt p4) ≤ 500
  · rw [if_pos (g1.mpr h), if_pos (g2.mpr (by omega)), thr_0 wr_s, ob2_some, if_pos rfl]
    obtain ⟨T1, I1, J1, x1, a1, b1, c1, d1⟩ := ap_4 (a := p0) hX0 (by omega)
    obtain ⟨T2, I2, J2, x2, a2, b2, c2, d2⟩ := ap_4 (a := p1) x1 (by omega)
    obtain ⟨T3, I3, J3, x3, a3, b3, c3, d3⟩ := ap_4 (a := p2) x2 (by omega)
    obtain ⟨T4, I4, J4, x4, a4, b4, c4, d4⟩ := ap_4 (a := p3) x3 (by omega)
    obtain ⟨T5, I5, J5, x5, a5, b5, c5, d5⟩ := ap_4 (a := p4) x4 (by omega)
    have fI : apI I I5 := fun k j q => by rw [a5 k j q, a4 k j q, a3 k j q, a2 k j q, a1 k j q]
    have fJ : ∀ k j, ¬ (k = 314 ∨ k = 306 ∧ j = 10) → ¬ (k = 306 ∧ j = 0) → J5 k j = J k j := fun k j q q2 => by rw [b5 k j q, b4 k j q, b3 k j q, b2 k j q, b1 k j q, wr_n q2]
    rw [c1, d1, ob_s, ob_s, c2, d2, ob_s, ob_s, c3, d3, ob_s, ob_s, c4, d4, ob_s, ob_s, c5, d5, ob_s, ob_s]
    refine ⟨0, _, _, _, _, rfl, rfl, ⟨hS.cong (by omega) (fun k j h1 h2 => fI _ _ (by omega)) (fun j => fJ _ _ (by omega) (by omega)), hU.cong (by omega) (fun k j h1 h2 => fI _ _ (by omega)) (fI _ _ (by omega)) (fI _ _ (by omega)) (fun j => fJ _ _ (by omega) (by omega)) (fJ _ _ (by omega) (by omega)), hV.cong (by omega) (fun k j h1 h2 => fI _ _ (by omega)) (fI _ _ (by omega)) (fun j => fJ _ _ (by omega) (by omega)) (fun j => fJ _ _ (by omega) (by omega)), hA.cong (fun j => fI _ _ (by omega)) (fun j => fJ _ _ (by omega) (by omega)), x5.rel, hE.cong (fI _ _ (by omega)) (fI _ _ (by omega)) (fJ _ _ (by omega) (by omega)) (fJ _ _ (by omega) (by omega)), hO.cong (fun j => fI _ _ (by omega)) (fI _ _ (by omega)) (fun j => fJ _ _ (by omega) (by omega)) (fJ _ _ (by omega) (by omega))⟩, Or.inl ⟨rfl, ?_, ?_⟩⟩
    · rw [b5 _ _ (by omega), b4 _ _ (by omega), b3 _ _ (by omega), b2 _ _ (by omega), b1 _ _ (by omega), wr_s]
    · rw [x5.2.1, x5.2.2.1]
  · rw [if_neg (fun q => h (g1.mp q)), if_neg (fun q => h (by have := g2.mp q; omega)), thr_11 wr_s, ob2_some, if_neg (by decide)]
    exact ⟨3, _, _, _, _, rfl, rfl, RelB.cong (by omega) (fun _ _ _ => rfl) (fun k j q => by
      have : ¬ (k = 306 ∧ j = 0) := fun hh => q (by unfold qJ; omega)
      rw [wr_n this, wr_n this]) ⟨hS, hU, hV, hA, hT, hE, hO⟩, Or.inr ⟨rfl, wr_s⟩⟩
