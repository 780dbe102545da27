/-! BOTH SIDES READ IN STEP -/
def St (T : Nat → Nat) (L N i : Nat) (I J : Mem) : Prop :=
  (TK T L N I ∧ CX T L I ∧ JX T L J ∧ i ≤ N) ∧ (I 56 5 = nI i ∧ I 56 6 = 0 ∧ I 56 7 = -1 ∧ J 306 15 = 0 ∧ J 306 16 = -1) ∧
  J 306 11 = nI (sg T L i) ∧ J 306 12 = nI (en T L (sg T L i)) ∧ J 306 13 = nI (tk T L (sg T L i)) ∧ (kb T L (sg T L i) = 1 → J 306 14 = nI (vl T (sg T L i) (en T L (sg T L i) - sg T L i)))
/-- the class behind an error; both behind the same -/
def EI (I : Mem) : Prop := (∃ i, i ≤ 500 ∧ I 56 5 = nI i) ∧ I 56 6 ≠ 0
def Er (I J : Mem) : Prop := EI I ∧ I 56 6 = J 306 15 ∧ I 56 7 = J 306 16
/-- what reading writes -/
def fI (I I' : Mem) : Prop := ∀ k j, ¬ (k = 56 ∧ 5 ≤ j ∧ j ≤ 7) → I' k j = I k j
def fJ (J J' : Mem) : Prop := ∀ k j, ¬ (k = 306 ∧ 11 ≤ j ∧ j ≤ 17) → J' k j = J k j
theorem fI.rf {I : Mem} : fI I I := fun _ _ _ => rfl
theorem fJ.rf {J : Mem} : fJ J J := fun _ _ _ => rfl
theorem fI.tr {I I1 I2 : Mem} (h1 : fI I I1) (h2 : fI I1 I2) : fI I I2 := fun k j q => (h2 k j q).trans (h1 k j q)
theorem fJ.tr {J J1 J2 : Mem} (h1 : fJ J J1) (h2 : fJ J1 J2) : fJ J J2 := fun k j q => (h2 k j q).trans (h1 k j q)
theorem fI.wr5 {I : Mem} {v : Int32} : fI I (wr I 56 5 v) := fun k j q => wr_n (by omega)
theorem fJ.wr17 {J : Mem} {v : Int32} : fJ J (wr J 306 17 v) := fun k j q => wr_n (by omega)
section OP
variable {T : Nat → Nat} {L N i : Nat} {I J : Mem}
theorem TK.cg {I' : Mem} (hI : ∀ k j, 58 ≤ k → k ≤ 60 → I' k j = I k j) (h : TK T L N I) : TK T L N I' := by
  obtain ⟨h1, h2, h3, h4, h5⟩ := h
  refine ⟨h1, h2, h3, fun i hi => ?_, fun i hi => ?_⟩
  · rw [hI 58 i (by omega) (by omega), hI 59 i (by omega) (by omega)]; exact h4 i hi
  · rw [hI 60 i (by omega) (by omega)]; exact h5 i hi
theorem St.cg {I' J' : Mem} (hI : ∀ k j, 56 ≤ k → k ≤ 60 → I' k j = I k j) (hJ : ∀ k j, (k = 306 ∧ 10 ≤ j ∧ j ≤ 16 ∨ k = 314) → J' k j = J k j) (h : St T L N i I J) : St T L N i I' J' := by
  obtain ⟨⟨h1, h2, h3, h4⟩, ⟨h5, h6, h7, h8, h9⟩, h10, h11, h12, h13⟩ := h
  refine ⟨⟨h1.cg (fun k j a b => hI k j (by omega) (by omega)), h2.cong (hI _ _ (by omega) (by omega)) (fun j => hI _ _ (by omega) (by omega)), h3.cong (hJ _ _ (by omega)) (fun j => hJ _ _ (by omega)), h4⟩, ⟨?_, ?_, ?_, ?_, ?_⟩, ?_, ?_, ?_, ?_⟩
  · rw [hI _ _ (by omega) (by omega)]; exact h5
  · rw [hI _ _ (by omega) (by omega)]; exact h6
  · rw [hI _ _ (by omega) (by omega)]; exact h7
  · rw [hJ _ _ (by omega)]; exact h8
  · rw [hJ _ _ (by omega)]; exact h9
  · rw [hJ _ _ (by omega)]; exact h10
  · rw [hJ _ _ (by omega)]; exact h11
  · rw [hJ _ _ (by omega)]; exact h12
  · rw [hJ _ _ (by omega)]; exact h13
theorem EI.cg {I' : Mem} (h5 : I' 56 5 = I 56 5) (h6 : I' 56 6 = I 56 6) (h : EI I) : EI I' := by
  unfold EI
  rw [h5, h6]
  exact h
theorem Er.cg {I' J' : Mem} (hI : ∀ j, I' 56 j = I 56 j) (hJ : ∀ j, 15 ≤ j → j ≤ 16 → J' 306 j = J 306 j) (h : Er I J) : Er I' J' :=
  ⟨h.1.cg (hI 5) (hI 6), by rw [hI, hJ _ (by omega) (by omega)]; exact h.2.1, by rw [hI, hJ _ (by omega) (by omega)]; exact h.2.2⟩
/-! behind an error the class takes nothing -/
theorem EI.ld (h : EI I) {k : Nat} : ∃ x, ald I k 501 (I 56 5) = some x := by
  obtain ⟨⟨i, hi, e⟩, -⟩ := h
  exact ⟨_, by rw [e, ald_n (by omega) (by omega)]⟩
/-- the kind where the reader stands is the array's -/
theorem kn_e {j : Nat} (hj : j ≤ 500) (h5 : I 56 5 = nI j) : fX2_kindNow I = some (I 58 j) := by
  unfold fX2_kindNow
  rw [h5, if_neg (show ¬ nI j < 0 by rw [nI_lt0 (by omega)]; exact id), if_neg (show ¬ Int32.ofNat 501 ≤ nI j from show ¬ nI 501 ≤ nI j by rw [nI_leP (by omega) (by omega)]; omega), ald_n (by omega) (by omega), ob_s, ob_s]
theorem kind_E (h : EI I) : ∃ x, fX2_kindNow I = some x := by
  obtain ⟨⟨i, hi, e⟩, -⟩ := h
  exact ⟨_, kn_e hi e⟩
theorem fail_E (h : EI I) (a : Int32) : fX2_fail a I = some I := by
  unfold fX2_fail
  rw [if_neg h.2]
  rfl
theorem take_E (h : EI I) (a : Int32) : fX2_takeKind a I = some I := by
  obtain ⟨x, e⟩ := kind_E h
  unfold fX2_takeKind
  rw [e, ob_s, fail_E h]
  simp only [ob_s, ite_self, if_neg h.2]
theorem look_E (h : EI I) (a b : Int32) : fX2_lookNumber a b I = some (a, I) := by
  obtain ⟨x, e⟩ := kind_E h
  obtain ⟨y, e2⟩ := h.ld (k := 60)
  unfold fX2_lookNumber
  simp only [e, e2, ob_s, fail_E h, ite_self, ite_some, plet_d, if_neg h.2]
theorem num_E (h : EI I) (a b : Int32) : fX2_takeNumber a b I = some (a, I) := by
  unfold fX2_takeNumber
  rw [look_E h, ob2_some, take_E h]
  rfl
theorem sgn_E (h : EI I) (b : Int32) : fX2_takeSigned b I = some (0, I) := by
  obtain ⟨x, e⟩ := kind_E h
  unfold fX2_takeSigned
  rw [e, ob_s, plet_d, take_E h]
  simp only [ob_s, ite_self]
  rw [num_E h, ob2_some, plet_d, show (-0 : Int32) = 0 by decide, ite_self]
theorem more_E (h : EI I) : fX2_hasMore I = some 0 := by
  unfold fX2_hasMore
  rw [if_neg h.2]
  rfl
theorem atS_E (h : EI I) : ∃ b : Bool, fX2_isAtSigned I = some (b2i b) := by
  obtain ⟨x, e⟩ := kind_E h
  unfold fX2_isAtSigned
  rw [e]
  simp only [ob_s]
  by_cases h1 : x = 1
  · rw [if_pos h1]; exact ⟨true, rfl⟩
  · rw [if_neg h1]
    by_cases h2 : x = 2
    · rw [if_pos h2]; exact ⟨true, rfl⟩
    · rw [if_neg h2]; exact ⟨false, rfl⟩
/-! kinds -/
theorem wd_v (p : Nat) : wd T L p = 4 ∨ 7 ≤ wd T L p ∧ wd T L p ≤ 15 := by
  unfold wd
  repeat' split
  all_goals omega
theorem kd_v (p : Nat) : kd T L p ≤ 15 := by
  have := @wd_v T L p
  have := @kb_6 T L p
  unfold kd
  repeat' split
  all_goals omega
theorem tk_v (p : Nat) : tk T L p ≤ 5 := by
  unfold tk
  repeat' split
  all_goals omega
theorem kd_0 (p : Nat) : kd T L p = 0 ↔ L ≤ p := by
  have := @wd_v T L p
  have := @kb_0 T L p
  unfold kd
  repeat' split
  all_goals omega
theorem tk_0 (p : Nat) : tk T L p = 0 ↔ L ≤ p := by
  unfold tk
  repeat' split
  all_goals omega
theorem kt_1 (p : Nat) : (kd T L p = 1 ↔ tk T L p = 2) ∧ (kd T L p = 1 → p < L ∧ kb T L p = 1) := by
  have := @wd_v T L p
  unfold kd tk
  repeat' split
  all_goals omega
theorem kt_2 (p : Nat) : kd T L p = 2 ↔ tk T L p = 3 := by
  have := @wd_v T L p
  unfold kd tk
  repeat' split
  all_goals omega
theorem kt_3 (p : Nat) : kd T L p = 3 ↔ tk T L p = 4 := by
  have := @wd_v T L p
  unfold kd tk
  repeat' split
  all_goals omega
theorem St.N5 (h : St T L N i I J) : N ≤ 500 := h.1.1.1
theorem St.L5 (h : St T L N i I J) : L ≤ 500 := h.1.2.1.1
theorem St.iN (h : St T L N i I J) : i ≤ N := h.1.2.2.2
theorem St.hi (h : St T L N i I J) : kd T L (sg T L i) = 0 ↔ i = N := by
  obtain ⟨⟨⟨-, h2, h3, -, -⟩, -, -, h4⟩, -⟩ := h
  rw [kd_0]
  constructor
  · intro q
    by_cases hi : i = N
    · exact hi
    · have := h3 i (by omega); omega
  · rintro rfl; omega
theorem St.lt (h : St T L N i I J) {k : Nat} (hk : kd T L (sg T L i) = k) (h0 : k ≠ 0) : i < N := by
  have := h.hi
  have := h.iN
  omega
theorem St.ld8 (h : St T L N i I J) : ald I 58 501 (I 56 5) = some (nI (kd T L (sg T L i))) := by
  have := h.N5
  have := h.iN
  rw [h.2.1.1, ald_n (by omega) (by omega), (h.1.1.2.2.2.1 i (by omega)).1]
theorem St.ld9 (h : St T L N i I J) : ald I 59 501 (I 56 5) = some (nI (sg T L i)) := by
  have := h.N5
  have := h.iN
  rw [h.2.1.1, ald_n (by omega) (by omega), (h.1.1.2.2.2.1 i (by omega)).2]
/-- the number's value -/
def vv (T : Nat → Nat) (L i : Nat) : Nat := vl T (sg T L i) (en T L (sg T L i) - sg T L i)
theorem dig_run {p : Nat} (h : p < L) (h1 : kb T L p = 1) : ∀ x, x < en T L p - p → T (p + x) - 48 ≤ 9 := by
  intro x hx
  unfold en at hx
  rw [if_pos h, if_pos (Or.inr h1), h1] at hx
  have := ru_in (T := T) (L := L) (c := 1) (p := p) (q := p + x) (by omega) (by omega)
  have := kb_d this.2
  omega
theorem St.ld0 (h : St T L N i I J) (h1 : kd T L (sg T L i) = 1) : ald I 60 501 (I 56 5) = some (nI (min 1000000 (vv T L i))) ∧ J 306 14 = nI (vv T L i) ∧ vv T L i ≤ 9999999 := by
  have := h.N5
  have := h.lt h1 (by omega)
  obtain ⟨a1, a2⟩ := (kt_1 (T := T) (L := L) (sg T L i)).2 h1
  obtain ⟨b1, b2⟩ := nm_vl T (en T L (sg T L i) - sg T L i) (sg T L i) (dig_run a1 a2)
  exact ⟨by rw [h.2.1.1, ald_n (by omega) (by omega), h.1.1.2.2.2.2 i (by omega) a2, b1]; rfl, h.2.2.2.2.2 a2, b2⟩
theorem kind_S (h : St T L N i I J) : fX2_kindNow I = some (nI (kd T L (sg T L i))) := by
  have := h.N5
  have := h.iN
  rw [kn_e (j := i) (by omega) h.2.1.1, (h.1.1.2.2.2.1 i (by omega)).1]
theorem more_S (h : St T L N i I J) : fX2_hasMore I = some (b2i (decide (i < N))) := by
  have hv := @kd_v T L (sg T L i)
  have hi := h.hi
  have := h.iN
  unfold fX2_hasMore
  rw [if_pos h.2.1.2.1, kind_S h, ob_s]
  simp only [nI_eq0 (show kd T L (sg T L i) < 2 ^ 31 by omega)]
  by_cases hN : i < N
  · rw [if_neg (by omega), decide_eq_true hN]; rfl
  · rw [if_pos (by omega), decide_eq_false hN]; rfl
theorem St.t13 (h : St T L N i I J) {k : Nat} (hk : k < 2 ^ 31) : (J 306 13 = nI k) = (tk T L (sg T L i) = k) := by
  have := @tk_v T L (sg T L i)
  rw [h.2.2.2.2.1, nI_eqP (by omega) hk]
theorem fails_S (h : St T L N i I J) {c : Nat} (h0 : c ≠ 0) (hc : c < 2 ^ 31) : ∃ I' J', fX2_fail (nI c) I = some I' ∧ fX8_fails (nI c) J = some (0, J') ∧ Er I' J' ∧ fI I I' ∧ fJ J J' := by
  have := h.N5
  have hi := h.iN
  unfold fX2_fail fX8_fails
  rw [if_pos h.2.1.2.1, if_pos h.2.1.2.2.2.1, plet_d, zbo_0, ob_s, show (wr I 56 6 (nI c)) 56 5 = nI i by rw [wr_j (by omega)]; exact h.2.1.1, if_neg (show ¬ nI i < 0 by rw [nI_lt0 (by omega)]; exact id), if_neg (show ¬ Int32.ofNat 501 ≤ nI i from show ¬ nI 501 ≤ nI i by rw [nI_leP (by omega) (by omega)]; omega), ald_n (by omega) (by omega), ob_s, ob_s, ob_s]
  refine ⟨_, _, rfl, rfl, ⟨⟨⟨i, by omega, ?_⟩, ?_⟩, ?_, ?_⟩, fun k j q => ?_, fun k j q => ?_⟩
  · simp (disch := omega) only [wr_j]; exact h.2.1.1
  · simp (disch := omega) only [wr_j, wr_s]
    exact fun q => h0 ((nI_eqP (b := 0) hc (by omega)).mp q)
  · simp (disch := omega) only [wr_j, wr_s]
  · simp (disch := omega) only [wr_j, wr_k, wr_s]
    rw [(h.1.1.2.2.2.1 i (by omega)).2, h.2.2.1]
  · simp (disch := omega) only [wr_n]
  · simp (disch := omega) only [wr_n]
theorem adv_S (h : St T L N i I J) (hN : i < N) : ∃ J', fX8_advance J = some J' ∧ St T L N (i + 1) (wr I 56 5 (nI (i + 1))) J' ∧ fJ J J' := by
  have hL := h.L5
  obtain ⟨⟨h1, h2, h3, h4⟩, ⟨h5, h6, h7, h8, h9⟩, h10, h11, h12, h13⟩ := h
  obtain ⟨J', e, e11, e12, e13, e14, f⟩ := adv_e h3 (en_le (sg_le i)) h11
  refine ⟨J', e, ⟨⟨h1.cg (fun k j a b => wr_k (by omega)), h2.cong (wr_j (by omega)) (fun j => wr_k (by omega)), h3.cong (f _ _ (by omega)) (fun j => f _ _ (by omega)), hN⟩, ⟨wr_s, by rw [wr_j (by omega)]; exact h6, by rw [wr_j (by omega)]; exact h7, by rw [f _ _ (by omega)]; exact h8, by rw [f _ _ (by omega)]; exact h9⟩, e11, e12, e13, e14⟩, fun k j q => f k j (by omega)⟩
theorem take_ok (h : St T L N i I J) {k : Nat} (hk : kd T L (sg T L i) = k) (h0 : k ≠ 0) : fX2_takeKind (nI k) I = some (wr I 56 5 (nI (i + 1))) := by
  have hv := @kd_v T L (sg T L i)
  unfold fX2_takeKind
  rw [kind_S h, ob_s, hk, if_pos rfl, ob_s, if_pos h.2.1.2.1, kind_S h, ob_s, hk, if_neg (show ¬ nI k = 0 from fun q => h0 ((nI_eqP (b := 0) (by omega) (by omega)).mp q)), ob_s, h.2.1.1, nI_1]
theorem take_no (h : St T L N i I J) {k : Nat} (hk : kd T L (sg T L i) ≠ k) (hk2 : k < 2 ^ 31) {I' : Mem} (hf : fX2_fail 1 I = some I') (hE : EI I') : fX2_takeKind (nI k) I = some I' := by
  have hv := @kd_v T L (sg T L i)
  unfold fX2_takeKind
  rw [kind_S h, ob_s, if_neg (fun q => hk ((nI_eqP (by omega) hk2).mp q)), hf, ob_s, ob_s, if_neg hE.2]
  rfl
/-- a number stands here, in its bounds -/
theorem look_S (h : St T L N i I J) {a : Nat} {b : Int32} (ha : a ≤ 1) (hb : b.toInt < 1000000) :
    (kd T L (sg T L i) = 1 ∧ a ≤ vv T L i ∧ (vv T L i : Int) ≤ b.toInt ∧ fX2_lookNumber (nI a) b I = some (nI (vv T L i), I) ∧ fX8_stands (nI a) b J = some (1, wr J 306 17 (nI (vv T L i)))) ∨
    ∃ I' J', fX2_lookNumber (nI a) b I = some (nI a, I') ∧ fX8_stands (nI a) b J = some (0, J') ∧ Er I' J' ∧ fI I I' ∧ fJ J J' := by
  have hv := @kd_v T L (sg T L i)
  by_cases h1 : kd T L (sg T L i) = 1
  · obtain ⟨g1, g2, g3⟩ := h.ld0 h1
    have ht : J 306 13 = 2 := (h.t13 (k := 2) (by omega)).mpr (((kt_1 _).1).mp h1)
    have hw : (wr J 306 17 (J 306 14)) 306 14 = nI (vv T L i) := by rw [wr_j (by omega)]; exact g2
    by_cases hr : a ≤ vv T L i ∧ (vv T L i : Int) ≤ b.toInt
    · refine Or.inl ⟨h1, hr.1, hr.2, ?_, ?_⟩
      · unfold fX2_lookNumber
        rw [kind_S h, ob_s, h1, if_pos (show nI 1 = 1 from rfl), g1, ob_s, ob_s, ob_s, if_pos (show nI 1 = 1 from rfl), show min 1000000 (vv T L i) = vv T L i by omega, if_neg (show ¬ nI (vv T L i) < nI a by rw [nI_ltP (by omega) (by omega)]; omega), if_pos (show nI (vv T L i) ≤ b by rw [Int32.le_iff_toInt_le, nI_toInt (by omega)]; exact hr.2), ob_s, plet_d, if_pos h.2.1.2.1]
      · unfold fX8_stands
        rw [if_pos ht, hw, within_i (by rw [nI_ltP (by omega) (by omega)]; omega) (by rw [Int32.lt_iff_toInt_lt, nI_toInt (by omega)]; omega), ob_s, if_neg n10, ob2_some, zbo_1, ob_s, g2]
    · right
      have hS2 : St T L N i I (wr J 306 17 (J 306 14)) := h.cg (fun _ _ _ _ => rfl) (fun k j q => wr_n (by omega))
      obtain ⟨I', J', f1, f2, f3, f4, f5⟩ := fails_S hS2 (c := 2) (by omega) (by omega)
      refine ⟨I', J', ?_, ?_, f3, f4, fJ.wr17.tr f5⟩
      · unfold fX2_lookNumber
        rw [kind_S h, ob_s, h1, if_pos (show nI 1 = 1 from rfl), g1, ob_s, ob_s, ob_s, if_pos (show nI 1 = 1 from rfl)]
        by_cases hlo : min 1000000 (vv T L i) < a
        · rw [if_pos (show nI (min 1000000 (vv T L i)) < nI a by rw [nI_ltP (by omega) (by omega)]; omega), show fX2_fail 2 I = some I' from f1, ob_s, ob_s, plet_d, if_neg f3.1.2]
        · rw [if_neg (show ¬ nI (min 1000000 (vv T L i)) < nI a by rw [nI_ltP (by omega) (by omega)]; omega), if_neg (show ¬ nI (min 1000000 (vv T L i)) ≤ b by rw [Int32.le_iff_toInt_le, nI_toInt (by omega)]; omega), show fX2_fail 2 I = some I' from f1, ob_s, ob_s, plet_d, if_neg f3.1.2]
      · unfold fX8_stands
        rw [if_pos ht, hw, within_o (by
          by_cases hlo : vv T L i < a
          · left; rw [nI_ltP (by omega) (by omega)]; omega
          · right; rw [Int32.lt_iff_toInt_lt, nI_toInt (by omega)]; omega), ob_s, if_pos rfl, show fX8_fails 2 (wr J 306 17 (J 306 14)) = some (0, J') from f2, ob2_some, if_pos rfl, ob2_some, zbo_0, ob_s]
  · right
    have ht : ¬ J 306 13 = 2 := fun q => h1 (((kt_1 _).1).mpr ((h.t13 (k := 2) (by omega)).mp q))
    obtain ⟨I', J', f1, f2, f3, f4, f5⟩ := fails_S h (c := 1) (by omega) (by omega)
    refine ⟨I', J', ?_, ?_, f3, f4, f5⟩
    · unfold fX2_lookNumber
      have hn : ¬ nI (kd T L (sg T L i)) = 1 := fun q => h1 ((nI_eqP (b := 1) (by omega) (by omega)).mp q)
      rw [kind_S h, ob_s, if_neg hn, ob_s, ob_s, if_neg hn, show fX2_fail 1 I = some I' from f1, ob_s, ob_s, plet_d, if_neg f3.1.2]
    · unfold fX8_stands
      rw [if_neg ht, show fX8_fails 1 J = some (0, J') from f2, ob2_some, zbo_0, ob_s]
/-- a number is taken -/
theorem num_S (h : St T L N i I J) {a : Nat} {b : Int32} (ha : a ≤ 1) (hb : b.toInt < 1000000) :
    (∃ v J', i < N ∧ a ≤ v ∧ (v : Int) ≤ b.toInt ∧ v < 2 ^ 24 ∧ fX2_takeNumber (nI a) b I = some (nI v, wr I 56 5 (nI (i + 1))) ∧ fX8_takes (nI a) b J = some (1, J') ∧ St T L N (i + 1) (wr I 56 5 (nI (i + 1))) J' ∧ J' 306 17 = nI v ∧ fJ J J') ∨
    ∃ I' J', fX2_takeNumber (nI a) b I = some (nI a, I') ∧ fX8_takes (nI a) b J = some (0, J') ∧ Er I' J' ∧ fI I I' ∧ fJ J J' := by
  unfold fX2_takeNumber fX8_takes
  rcases look_S h ha hb with ⟨h1, h2, h3, e1, e2⟩ | ⟨I', J', e1, e2, f3, f4, f5⟩
  · left
    have hN := h.lt h1 (by omega)
    have hS2 : St T L N i I (wr J 306 17 (nI (vv T L i))) := h.cg (fun _ _ _ _ => rfl) (fun k j q => wr_n (by omega))
    obtain ⟨J', a1, a2, a3⟩ := adv_S hS2 hN
    have hv := (h.ld0 h1).2.2
    have h17 := fun (J2 J' : Mem) (e : fX8_advance J2 = some J') (hq : ∃ q, q ≤ L ∧ J2 306 12 = nI q) (hx : JX T L J2) => show J' 306 17 = J2 306 17 from by
      obtain ⟨q, hq, h12⟩ := hq
      obtain ⟨J3, c1, -, -, -, -, c6⟩ := adv_e hx hq h12
      rw [c1] at e
      injection e with e
      rw [← e]
      exact c6 _ _ (by omega)
    refine ⟨vv T L i, J', hN, h2, h3, by omega, ?_, ?_, a2, ?_, fJ.wr17.tr a3⟩
    · rw [e1, ob2_some, show fX2_takeKind 1 I = _ from take_ok (k := 1) h h1 (by omega), ob_s]
    · rw [e2, ob2_some, if_neg n10]
      unfold fX8_starts
      rw [if_neg n10, a1, ob_s, zbo_1, ob_s, ob2_some, if_neg n10, ob2_some, zbo_1, ob_s]
    · rw [h17 _ _ a1 ⟨en T L (sg T L i), en_le (sg_le i), by rw [wr_j (by omega)]; exact h.2.2.2.1⟩ hS2.1.2.2.1, wr_s]
  · right
    refine ⟨I', J', ?_, ?_, f3, f4, f5⟩
    · rw [e1, ob2_some, take_E f3.1]
      rfl
    · rw [e2, ob2_some, if_pos rfl, ob2_some, zbo_0, ob_s]
/-- a number with its sign -/
theorem sgn_S (h : St T L N i I J) {m : Nat} (hm : m < 1000000) :
    (∃ v i' J', i < i' ∧ i' ≤ N ∧ bd (-m) m v ∧ fX2_takeSigned (nI m) I = some (v, wr I 56 5 (nI i')) ∧ fX8_takesSigned (nI m) J = some (1, J') ∧ St T L N i' (wr I 56 5 (nI i')) J' ∧ J' 306 17 = v ∧ fJ J J') ∨
    ∃ v I' J', fX2_takeSigned (nI m) I = some (v, I') ∧ fX8_takesSigned (nI m) J = some (0, J') ∧ Er I' J' ∧ fI I I' ∧ fJ J J' := by
  have hv := @kd_v T L (sg T L i)
  have hb : (nI m).toInt < 1000000 := by rw [nI_toInt (by omega)]; omega
  unfold fX2_takeSigned fX8_takesSigned
  rw [kind_S h, ob_s, plet_d, plet_d]
  by_cases h2 : kd T L (sg T L i) = 2
  · have ht : J 306 13 = 3 := (h.t13 (k := 3) (by omega)).mpr ((kt_2 _).mp h2)
    have hN := h.lt h2 (by omega)
    obtain ⟨J2, a1, a2, a3⟩ := adv_S h hN
    rw [h2, if_pos (show nI 2 = 2 from rfl), if_pos ht, if_neg n10, if_neg n10, show fX2_takeKind 2 I = _ from take_ok (k := 2) h h2 (by omega), a1, ob_s, ob_s, ob_s, ob_s]
    rcases num_S a2 (a := 0) (b := nI m) (by omega) hb with ⟨v, J', c1, c2, c3, c4, c5, c6, c7, c8, c9⟩ | ⟨I', J', c1, c2, c3, c4, c5⟩
    · left
      rw [nI_toInt (by omega)] at c3
      rw [show (0 : Int32) = nI 0 from rfl, c5, c6, ob2_some, ob2_some, if_neg (show ¬ (1 : Int32) = nI 0 by decide), plet_d, plet_d, if_neg (show ¬ (1 : Int32) = nI 0 by decide), if_neg (show ¬ (1 : Int32) = nI 0 by decide), zbo_1, ob_s]
      have hw : (wr (wr I 56 5 (nI (i + 1))) 56 5 (nI (i + 1 + 1))) = wr I 56 5 (nI (i + 2)) := by
        funext k j
        by_cases hk : k = 56 ∧ j = 5
        · obtain ⟨rfl, rfl⟩ := hk; rw [wr_s, wr_s]
        · rw [wr_n hk, wr_n hk, wr_n hk]
      rw [hw] at c7 ⊢
      refine ⟨-(nI v), i + 2, wr J' 306 17 (-(J' 306 17)), by omega, by omega, ?_, rfl, rfl, c7.cg (fun _ _ _ _ => rfl) (fun k j q => wr_n (by omega)), by rw [wr_s, c8], (a3.tr c9).tr fJ.wr17⟩
      unfold bd
      rw [Int32.toInt_neg, nI_toInt (by omega), Int.bmod_eq_of_le (by omega) (by omega)]
      omega
    · right
      rw [show (0 : Int32) = nI 0 from rfl, c1, c2, ob2_some, ob2_some, if_pos (show (0 : Int32) = nI 0 from rfl), plet_d, show zbo (nI 0) = some 0 from rfl, ob_s]
      exact ⟨_, I', J', rfl, rfl, c3, fI.wr5.tr c4, a3.tr c5⟩
  · have ht : ¬ J 306 13 = 3 := fun q => h2 ((kt_2 _).mpr ((h.t13 (k := 3) (by omega)).mp q))
    rw [if_neg (show ¬ nI (kd T L (sg T L i)) = 2 from fun q => h2 ((nI_eqP (b := 2) (by omega) (by omega)).mp q)), if_neg ht, if_pos rfl, if_pos rfl, ob_s, ob_s]
    rcases num_S h (a := 0) (b := nI m) (by omega) hb with ⟨v, J', c1, c2, c3, c4, c5, c6, c7, c8, c9⟩ | ⟨I', J', c1, c2, c3, c4, c5⟩
    · left
      rw [nI_toInt (by omega)] at c3
      rw [show (0 : Int32) = nI 0 from rfl, c5, c6, ob2_some, ob2_some, if_neg (show ¬ (1 : Int32) = nI 0 by decide), plet_d, plet_d, if_pos rfl, if_pos rfl, zbo_1, ob_s]
      refine ⟨nI v, i + 1, wr J' 306 17 (J' 306 17), by omega, by omega, ?_, rfl, rfl, c7.cg (fun _ _ _ _ => rfl) (fun k j q => wr_n (by omega)), by rw [wr_s, c8], c9.tr fJ.wr17⟩
      unfold bd
      rw [nI_toInt (by omega)]
      omega
    · right
      rw [show (0 : Int32) = nI 0 from rfl, c1, c2, ob2_some, ob2_some, if_pos (show (0 : Int32) = nI 0 from rfl), plet_d, show zbo (nI 0) = some 0 from rfl, ob_s]
      exact ⟨_, I', J', rfl, rfl, c3, c4, c5⟩
/-- a semicolon -/
theorem stop_S (h : St T L N i I J) :
    (∃ J', i < N ∧ fX2_takeKind 3 I = some (wr I 56 5 (nI (i + 1))) ∧ fX8_stop J = some (1, J') ∧ St T L N (i + 1) (wr I 56 5 (nI (i + 1))) J' ∧ fJ J J') ∨
    ∃ I' J', fX2_takeKind 3 I = some I' ∧ fX8_stop J = some (0, J') ∧ Er I' J' ∧ fI I I' ∧ fJ J J' := by
  unfold fX8_stop fX8_starts
  rw [plet_d]
  by_cases h3 : kd T L (sg T L i) = 3
  · left
    have hN := h.lt h3 (by omega)
    obtain ⟨J', a1, a2, a3⟩ := adv_S h hN
    rw [if_pos (show J 306 13 = 4 from (h.t13 (k := 4) (by omega)).mpr ((kt_3 _).mp h3)), if_neg n10, a1, ob_s, zbo_1, ob_s, ob2_some, zbo_1, ob_s]
    exact ⟨J', hN, take_ok (k := 3) h h3 (by omega), rfl, a2, a3⟩
  · right
    obtain ⟨I', J', f1, f2, f3, f4, f5⟩ := fails_S h (c := 1) (by omega) (by omega)
    rw [if_neg (show ¬ J 306 13 = 4 from fun q => h3 ((kt_3 _).mpr ((h.t13 (k := 4) (by omega)).mp q))), if_pos rfl, show fX8_fails 1 J = some (0, J') from f2, ob2_some, zbo_0, ob_s, ob2_some, zbo_0, ob_s]
    exact ⟨I', J', take_no h h3 (by omega) f1 f3.1, rfl, f3, f4, f5⟩
theorem word_S (h : St T L N i I J) {w : Nat} (hw : w < 9) : fX8_isWord w J = some (b2i (decide (kd T L (sg T L i) = 7 + w))) :=
  isWord_e h.1.2.2.1 hw (sg_le i) h.2.2.1 h.2.2.2.1 h.2.2.2.2.1
/-- the text is read from its beginning -/
theorem begin_S (h : TX T L I J) : ∃ N I' J', fX2_scan I = some I' ∧ fX8_begins J = some J' ∧ St T L N 0 I' J' ∧ (∀ k j, ¬ (58 ≤ k ∧ k ≤ 60) → ¬ (k = 56 ∧ 5 ≤ j ∧ j ≤ 7) → I' k j = I k j) ∧ fJ J J' := by
  obtain ⟨h1, h2, h3, h4⟩ := h
  have cI : CX T L I := ⟨h1, h2, fun i hi => ⟨(h4 i hi).1, (h4 i hi).2.1, (h4 i hi).2.2.1⟩⟩
  have cJ : JX T L J := ⟨h1, h3, fun i hi => ⟨(h4 i hi).1, (h4 i hi).2.1, (h4 i hi).2.2.2⟩⟩
  obtain ⟨N, I', e, t1, t2, t3, t4, t5, t6⟩ := scan_e cI
  have cJ2 : JX T L (wr (wr (wr J 306 12 0) 306 15 0) 306 16 (-1)) := cJ.cong (by simp (disch := omega) only [wr_j]) (fun j => by simp (disch := omega) only [wr_k])
  obtain ⟨J', a1, a11, a12, a13, a14, f⟩ := adv_e cJ2 (q := 0) (by omega) (by simp (disch := omega) only [wr_j, wr_s]; rfl)
  refine ⟨N, I', J', e, ?_, ⟨⟨t1, t2, cJ2.cong (f _ _ (by omega)) (fun j => f _ _ (by omega)), Nat.zero_le _⟩, ⟨t3, t4, t5, ?_, ?_⟩, a11, a12, a13, a14⟩, fun k j q1 q2 => t6 k j q1 (by omega), fun k j q => ?_⟩
  · unfold fX8_begins
    rw [a1, ob_s]
  · rw [f _ _ (by omega)]; simp (disch := omega) only [wr_j, wr_s]
  · rw [f _ _ (by omega)]; simp (disch := omega) only [wr_s]
  · rw [f _ _ (by omega)]; simp (disch := omega) only [wr_n]
end OP
