/-! THE REFERENCE READS THE TOKENS OF A TEXT -/
def JX (T : Nat → Nat) (L : Nat) (J : Mem) : Prop := L ≤ 500 ∧ J 306 10 = nI L ∧ ∀ i, i < L → 1 ≤ T i ∧ T i ≤ 255 ∧ J 314 i = (nI (T i)).toInt8.toInt32
theorem JX.cong {T : Nat → Nat} {L : Nat} {J J' : Mem} (h1 : J' 306 10 = J 306 10) (h2 : ∀ j, J' 314 j = J 314 j) (h : JX T L J) : JX T L J' :=
  ⟨h.1, h1.trans h.2.1, fun i hi => by rw [h2]; exact h.2.2 i hi⟩
/-- the byte at p; -1 behind the text -/
def bb (T : Nat → Nat) (L p : Nat) : Int32 := if p < L then nI (T p) else -1
section AD
variable {T : Nat → Nat} {L : Nat} {J : Mem}
theorem t8_e : ∀ t, t < 256 → (nI t).toInt8.toInt32 &&& 255 = nI t := by decide +kernel
theorem byteAt_e (h : JX T L J) {p : Nat} (hp : p < 2 ^ 31) : fX8_byteAt (nI p) J = some (bb T L p) := by
  obtain ⟨hL, h1, h2⟩ := h
  unfold fX8_byteAt bb
  rw [h1]
  simp only [nI_leP (show L < 2 ^ 31 by omega) hp]
  by_cases hpL : p < L
  · obtain ⟨a1, a2, a3⟩ := h2 p hpL
    rw [if_neg (by omega), ald_n (by omega) (by omega), ob_s, ob_s, a3, t8_e _ (by omega), if_pos hpL]
  · rw [if_pos (by omega), ob_s, if_neg hpL]
theorem isL_t : ∀ t, t < 256 → fX8_isLetter (nI t) = some (b2i (decide (kbt t = 6))) := by decide +kernel
theorem isD_t : ∀ t, t < 256 → fX8_isDigit (nI t) = some (b2i (decide (kbt t = 1))) := by decide +kernel
theorem gap_t : ∀ t, t < 256 → (nI t = 32 ∨ nI t = 10 ↔ kbt t = 5) := by decide +kernel
theorem min_t : ∀ t, t < 256 → (nI t = 59 ↔ kbt t = 3) ∧ (nI t = 45 ↔ kbt t = 2) ∧ nI t ≠ -1 := by decide +kernel
theorem isL_e (h : JX T L J) (p : Nat) : fX8_isLetter (bb T L p) = some (b2i (decide (kb T L p = 6))) := by
  unfold bb kb
  by_cases hp : p < L
  · have := h.2.2 p hp
    rw [if_pos hp, if_pos hp, isL_t _ (by omega)]
  · rw [if_neg hp, if_neg hp]
    rfl
theorem isD_e (h : JX T L J) (p : Nat) : fX8_isDigit (bb T L p) = some (b2i (decide (kb T L p = 1))) := by
  unfold bb kb
  by_cases hp : p < L
  · have := h.2.2 p hp
    rw [if_pos hp, if_pos hp, isD_t _ (by omega)]
  · rw [if_neg hp, if_neg hp]
    rfl
theorem gap_e (h : JX T L J) (p : Nat) : (bb T L p = 32 ∨ bb T L p = 10) ↔ (p < L ∧ kb T L p = 5) := by
  unfold bb kb
  by_cases hp : p < L
  · have := h.2.2 p hp
    rw [if_pos hp, if_pos hp, gap_t _ (by omega)]
    exact ⟨fun q => ⟨hp, q⟩, fun q => q.2⟩
  · rw [if_neg hp]
    exact ⟨fun q => absurd q (by decide), fun q => absurd q.1 hp⟩
theorem adv_0 : ∀ (d q n : Nat) (J : Mem), JX T L J → L - q = d → q ≤ L → d < n → J 306 12 = nI q → ∃ J', fX8_advance_L0 n J = some J' ∧ J' 306 12 = nI (ru T L 5 q) ∧ ∀ k j, ¬ (k = 306 ∧ j = 12) → J' k j = J k j := by
  intro d
  induction d with
  | zero =>
    intro q n J h hd hq hn h12
    obtain ⟨n, rfl⟩ := fuel hn
    have hL := h.1
    have hg : ¬ (bb T L q = 32 ∨ bb T L q = 10) := fun x => by have := (gap_e h q).mp x; omega
    rw [fX8_advance_L0, h12, byteAt_e h (by omega), ob_s, if_neg (fun x => hg (Or.inl x)), ob_s, if_neg (fun x => hg (Or.inr x))]
    exact ⟨J, rfl, by rw [ru_no (by omega), h12], fun _ _ _ => rfl⟩
  | succ d ih =>
    intro q n J h hd hq hn h12
    obtain ⟨n, rfl⟩ := fuel hn
    have hL := h.1
    rw [fX8_advance_L0, h12, byteAt_e h (by omega), ob_s, ob_s]
    by_cases hg : bb T L q = 32 ∨ bb T L q = 10
    · obtain ⟨J', e, e12, f⟩ := ih (q + 1) n (wr J 306 12 (nI q + 1)) (h.cong (wr_j (by omega)) (fun j => wr_k (by omega))) (by omega) (by omega) (by omega) (by rw [wr_s, nI_1])
      refine ⟨J', ?_, by rw [e12, ru_go ((gap_e h q).mp hg)], fun k j hk => by rw [f k j hk, wr_n hk]⟩
      by_cases h32 : bb T L q = 32
      · rw [if_pos h32]; exact e
      · rw [if_neg h32, if_pos (hg.resolve_left h32)]; exact e
    · rw [if_neg (fun x => hg (Or.inl x)), if_neg (fun x => hg (Or.inr x))]
      exact ⟨J, rfl, by rw [ru_no (fun x => hg ((gap_e h q).mpr x)), h12], fun _ _ _ => rfl⟩
theorem adv_86 : ∀ (d q n : Nat) (J : Mem), JX T L J → L - q = d → q ≤ L → d < n → J 306 12 = nI q → ∃ J', fX8_advance_L86 n J = some J' ∧ J' 306 12 = nI (ru T L 6 q) ∧ ∀ k j, ¬ (k = 306 ∧ j = 12) → J' k j = J k j := by
  intro d
  induction d with
  | zero =>
    intro q n J h hd hq hn h12
    obtain ⟨n, rfl⟩ := fuel hn
    have hL := h.1
    rw [fX8_advance_L86, h12, byteAt_e h (by omega), ob_s, isL_e h, ob_s, kb_hi (by omega)]
    exact ⟨J, rfl, by rw [ru_no (by omega), h12], fun _ _ _ => rfl⟩
  | succ d ih =>
    intro q n J h hd hq hn h12
    obtain ⟨n, rfl⟩ := fuel hn
    have hL := h.1
    rw [fX8_advance_L86, h12, byteAt_e h (by omega), ob_s, isL_e h, ob_s]
    by_cases hg : kb T L q = 6
    · obtain ⟨J', e, e12, f⟩ := ih (q + 1) n (wr J 306 12 (nI q + 1)) (h.cong (wr_j (by omega)) (fun j => wr_k (by omega))) (by omega) (by omega) (by omega) (by rw [wr_s, nI_1])
      refine ⟨J', ?_, by rw [e12, ru_go ⟨by omega, hg⟩], fun k j hk => by rw [f k j hk, wr_n hk]⟩
      rw [decide_eq_true hg]
      exact e
    · rw [decide_eq_false hg]
      exact ⟨J, rfl, by rw [ru_no (by omega), h12], fun _ _ _ => rfl⟩
theorem vl_s (T : Nat → Nat) (s d : Nat) : vl T s (d + 1) = if vl T s d ≤ 999999 then 10 * vl T s d + (T (s + d) - 48) else vl T s d := by
  unfold vl
  rw [itr_succ]
theorem adv_125 {s : Nat} : ∀ (d q n : Nat) (J : Mem), JX T L J → L - q = d → s ≤ q → q ≤ L → d < n → J 306 12 = nI q → J 306 14 = nI (vl T s (q - s)) → (∀ x, s ≤ x → x < q → kb T L x = 1) → ∃ J', fX8_advance_L125 n J = some J' ∧ J' 306 12 = nI (ru T L 1 q) ∧ J' 306 14 = nI (vl T s (ru T L 1 q - s)) ∧ ∀ k j, ¬ (k = 306 ∧ (j = 12 ∨ j = 14)) → J' k j = J k j := by
  intro d
  induction d with
  | zero =>
    intro q n J h hd hs hq hn h12 h14 hx
    obtain ⟨n, rfl⟩ := fuel hn
    have hL := h.1
    rw [fX8_advance_L125, h12, byteAt_e h (by omega), ob_s, isD_e h, ob_s, kb_hi (by omega)]
    exact ⟨J, rfl, by rw [ru_no (by omega), h12], by rw [ru_no (by omega), h14], fun _ _ _ => rfl⟩
  | succ d ih =>
    intro q n J h hd hs hq hn h12 h14 hx
    obtain ⟨n, rfl⟩ := fuel hn
    have hL := h.1
    rw [fX8_advance_L125, h12, byteAt_e h (by omega), ob_s, isD_e h, ob_s]
    by_cases hg : kb T L q = 1
    · have hdg := kb_d hg
      have hv := (nm_vl T (q - s) s (fun i hi => by have := kb_d (hx (s + i) (by omega) (by omega)); omega)).2
      rw [decide_eq_true hg, if_neg (show ¬ b2i true = 0 by decide), h14]
      simp only [show (nI (vl T s (q - s)) ≤ 999999) = (vl T s (q - s) ≤ 999999) from nI_leP (b := 999999) (by omega) (by omega)]
      have hxx : (if vl T s (q - s) ≤ 999999 then Option.bind (fX8_byteAt (nI q) J) fun x10 => some (((10 : Int32) * nI (vl T s (q - s)) + x10) - 48) else some (nI (vl T s (q - s)))) = some (nI (vl T s (q + 1 - s))) := by
        rw [show q + 1 - s = q - s + 1 by omega, vl_s, show s + (q - s) = q by omega]
        split
        · rw [byteAt_e h (by omega), ob_s]
          unfold bb
          rw [if_pos hdg.1, show (10 : Int32) = nI 10 from rfl, show (48 : Int32) = nI 48 from rfl, nI_mul_n, nI_addn, nI_sub (by omega) (by omega)]
          congr 2
          omega
        · rfl
      rw [byteAt_e h (by omega)] at hxx
      simp only [ob_s] at hxx ⊢
      rw [show (if vl T s (q - s) ≤ 999999 then some (((10 : Int32) * nI (vl T s (q - s)) + bb T L q) - 48) else some (nI (vl T s (q - s)))) = _ from hxx, ob_s]
      simp (disch := omega) only [wr_j]
      rw [h12, nI_1]
      obtain ⟨J', e, e12, e14, f⟩ := ih (q + 1) n (wr (wr J 306 14 (nI (vl T s (q + 1 - s)))) 306 12 (nI (q + 1))) (h.cong (by simp (disch := omega) only [wr_j]) (fun j => by simp (disch := omega) only [wr_k])) (by omega) (by omega) (by omega) (by omega) wr_s (by simp (disch := omega) only [wr_j, wr_s]) (fun x h1 h2 => by
        by_cases hxq : x = q
        · rw [hxq]; exact hg
        · exact hx x h1 (by omega))
      exact ⟨J', e, by rw [e12, ru_go ⟨by omega, hg⟩], by rw [e14, ru_go ⟨by omega, hg⟩], fun k j hk => by rw [f k j hk, wr_n (by omega), wr_n (by omega)]⟩
    · rw [decide_eq_false hg, if_pos (show b2i false = 0 by decide)]
      exact ⟨J, rfl, by rw [ru_no (by omega), h12], by rw [ru_no (by omega), h14], fun _ _ _ => rfl⟩
theorem adv_e (h : JX T L J) {q : Nat} (hq : q ≤ L) (h12 : J 306 12 = nI q) : ∃ J', fX8_advance J = some J' ∧ J' 306 11 = nI (ru T L 5 q) ∧ J' 306 12 = nI (en T L (ru T L 5 q)) ∧ J' 306 13 = nI (tk T L (ru T L 5 q)) ∧ (kb T L (ru T L 5 q) = 1 → J' 306 14 = nI (vl T (ru T L 5 q) (en T L (ru T L 5 q) - ru T L 5 q))) ∧ ∀ k j, ¬ (k = 306 ∧ 11 ≤ j ∧ j ≤ 14) → J' k j = J k j := by
  have hL := h.1
  unfold fX8_advance
  obtain ⟨J3, e3, e12, f3⟩ := adv_0 (L - q) q zF J h rfl hq (zF_g (by omega)) h12
  rw [e3, ob_s]
  have hs : ru T L 5 q ≤ L := ru_l hq
  have hs5 : ¬ (ru T L 5 q < L ∧ kb T L (ru T L 5 q) = 5) := ru_a 5 q
  generalize ru T L 5 q = s at *
  have c3 : JX T L J3 := h.cong (f3 _ _ (by omega)) (fun j => f3 _ _ (by omega))
  have c4 : JX T L (wr (wr J3 306 11 (J3 306 12)) 306 14 0) := c3.cong (by simp (disch := omega) only [wr_j]) (fun j => by simp (disch := omega) only [wr_k])
  rw [show (wr (wr J3 306 11 (J3 306 12)) 306 14 (0 : Int32)) 306 12 = nI s by simp (disch := omega) only [wr_j]; exact e12, byteAt_e c4 (by omega), ob_s]
  by_cases hsL : s < L
  · have ht := c3.2.2 s hsL
    have hb : bb T L s = nI (T s) := if_pos hsL
    have hk : kb T L s = kbt (T s) := if_pos hsL
    obtain ⟨m1, m2, m3⟩ := min_t (T s) (by omega)
    rw [if_neg (by rw [hb]; exact m3), isL_e c4, ob_s]
    unfold tk en
    rw [if_pos hsL, if_pos hsL]
    by_cases h6 : kb T L s = 6
    · rw [decide_eq_true h6, if_neg (show ¬ b2i true = 0 by decide), if_pos h6, if_pos (Or.inl h6), h6]
      obtain ⟨J', e, e12', f⟩ := adv_86 (L - s) s zF (wr (wr (wr J3 306 11 (J3 306 12)) 306 14 0) 306 13 1) (c4.cong (wr_j (by omega)) (fun j => wr_k (by omega))) rfl hs (zF_g (by omega)) (by simp (disch := omega) only [wr_j]; exact e12)
      rw [e, ob_s, ob_s]
      refine ⟨J', rfl, ?_, e12', ?_, fun q => by omega, fun k j hk => ?_⟩
      · rw [f _ _ (by omega)]; simp (disch := omega) only [wr_j, wr_s]; exact e12
      · rw [f _ _ (by omega), wr_s]; rfl
      · rw [f _ _ (by omega)]; simp (disch := omega) only [wr_n]; exact f3 _ _ (by omega)
    · rw [decide_eq_false h6, if_pos (show b2i false = 0 by decide), isD_e c4, ob_s, if_neg h6]
      by_cases h1 : kb T L s = 1
      · rw [decide_eq_true h1, if_neg (show ¬ b2i true = 0 by decide), if_pos h1, if_pos (Or.inr h1), h1]
        obtain ⟨J', e, e12', e14, f⟩ := adv_125 (s := s) (L - s) s zF (wr (wr (wr J3 306 11 (J3 306 12)) 306 14 0) 306 13 2) (c4.cong (wr_j (by omega)) (fun j => wr_k (by omega))) rfl (Nat.le_refl _) hs (zF_g (by omega)) (by simp (disch := omega) only [wr_j]; exact e12) (by simp (disch := omega) only [wr_j, wr_s]; rw [Nat.sub_self]; rfl) (fun x a1 a2 => by omega)
        rw [e, ob_s, ob_s]
        refine ⟨J', rfl, ?_, e12', ?_, fun _ => e14, fun k j hk => ?_⟩
        · rw [f _ _ (by omega)]; simp (disch := omega) only [wr_j, wr_s]; exact e12
        · rw [f _ _ (by omega), wr_s]; rfl
        · rw [f _ _ (by omega)]; simp (disch := omega) only [wr_n]; exact f3 _ _ (by omega)
      · rw [decide_eq_false h1, if_pos (show b2i false = 0 by decide), if_neg h1, if_neg (show ¬ (kb T L s = 6 ∨ kb T L s = 1) by omega), plet_d, ob_s]
        refine ⟨_, rfl, ?_, ?_, ?_, fun q => absurd q h1, fun k j hk => ?_⟩
        · simp (disch := omega) only [wr_j, wr_s]; exact e12
        · simp (disch := omega) only [wr_j, wr_s]; rw [nI_1]
        · rw [wr_s, hb, hk]
          by_cases h3 : kbt (T s) = 3
          · rw [if_pos (m1.mpr h3), if_pos h3]; rfl
          · rw [if_neg (fun q => h3 (m1.mp q)), if_neg h3]
            by_cases h2 : kbt (T s) = 2
            · rw [if_pos (m2.mpr h2), if_pos h2]; rfl
            · rw [if_neg (fun q => h2 (m2.mp q)), if_neg h2]; rfl
        · simp (disch := omega) only [wr_n]; exact f3 _ _ (by omega)
  · rw [if_pos (show bb T L s = -1 from if_neg hsL), ob_s]
    unfold tk en
    rw [if_neg hsL, if_neg hsL]
    refine ⟨_, rfl, ?_, ?_, ?_, fun q => ?_, fun k j hk => ?_⟩
    · simp (disch := omega) only [wr_j, wr_s]; exact e12
    · simp (disch := omega) only [wr_j, wr_s]; exact e12
    · rw [wr_s]; rfl
    · rw [kb_hi (by omega)] at q; omega
    · simp (disch := omega) only [wr_n]; exact f3 _ _ (by omega)
/-! words -/
theorem wc_l : ∀ w, w < 9 → ∀ i, i < wl w → ∃ t, t < 256 ∧ wc w i = nI t ∧ 97 ≤ t ∧ t ≤ 122 ∧ (nI t).toInt8.toInt32 = nI t := by
  have h : ∀ w, w < 9 → ∀ i, i < wl w → ∃ t : Fin 256, wc w i = nI t.1 ∧ 97 ≤ t.1 ∧ t.1 ≤ 122 ∧ (nI t.1).toInt8.toInt32 = nI t.1 := by decide +kernel
  intro w hw i hi
  obtain ⟨t, a⟩ := h w hw i hi
  exact ⟨t.1, t.2, a⟩
/-- a word stands here: the same by its end -/
theorem isW_e (hT : ∀ i, i < L → T i < 256) {w p : Nat} (hw : w < 9) (hp : p < L) (h6 : kb T L p = 6) : isW T L w p = decide (en T L p - p = wl w ∧ ∀ i, i < wl w → nI (T (p + i)) = wc w i) := by
  have hw6 := wl_6 w hw
  have hen : en T L p = ru T L 6 p := by
    unfold en
    rw [if_pos hp, if_pos (Or.inl h6), h6]
  unfold isW
  apply decide_eq_decide.mpr
  constructor
  · rintro ⟨h1, h2, h3⟩
    refine ⟨?_, h3⟩
    rw [hen, ru_is (q := p + wl w) (by omega) (fun x a1 a2 => ?_) (fun q => h2 q.2)]
    · omega
    · obtain ⟨t, ht, e, b1, b2, -⟩ := wc_l w hw (x - p) (by omega)
      have e2 := h3 (x - p) (by omega)
      rw [show p + (x - p) = x by omega, e] at e2
      have hx := hT x (by omega)
      have : T x = t := (nI_eqP (by omega) (by omega)).mp e2
      exact ⟨by omega, (kb_l (by omega)).mpr (by omega)⟩
  · rintro ⟨h1, h3⟩
    have hle : en T L p ≤ L := en_le (by omega)
    have hge := en_ge (T := T) (L := L) p
    have := ru_a (T := T) (L := L) 6 p
    rw [← hen] at this
    have e : p + wl w = en T L p := by omega
    refine ⟨by omega, ?_, h3⟩
    rw [e]
    intro q
    by_cases hq : en T L p < L
    · exact this ⟨hq, q⟩
    · rw [kb_hi (by omega)] at q; omega
theorem wc_ne : ∀ w, w < 9 → ∀ v, v < 9 → wl w = wl v → (∀ i, i < wl w → wc w i = wc v i) → w = v := by decide +kernel
/-- one word at most -/
theorem isW_1 (hT : ∀ i, i < L → T i < 256) {w v p : Nat} (hw : w < 9) (hv : v < 9) (hp : p < L) (h6 : kb T L p = 6) (h1 : isW T L w p = true) (h2 : isW T L v p = true) : w = v := by
  rw [isW_e hT hw hp h6] at h1
  rw [isW_e hT hv hp h6] at h2
  obtain ⟨a1, a2⟩ := of_decide_eq_true h1
  obtain ⟨b1, b2⟩ := of_decide_eq_true h2
  exact wc_ne w hw v hv (by omega) (fun i hi => by rw [← a2 i hi, b2 i (by omega)])
theorem wd_e (hT : ∀ i, i < L → T i < 256) {w p : Nat} (hw : w < 9) (hp : p < L) (h6 : kb T L p = 6) : isW T L w p = decide (wd T L p = 7 + w) := by
  have h1 := fun v (hv : v < 9) => @isW_1 T L hT w v p hw hv hp h6
  cases hh : isW T L w p
  · symm
    apply decide_eq_false
    intro q
    unfold wd at q
    have hc : w = 0 ∨ w = 1 ∨ w = 2 ∨ w = 3 ∨ w = 4 ∨ w = 5 ∨ w = 6 ∨ w = 7 ∨ w = 8 := by omega
    rcases hc with rfl | rfl | rfl | rfl | rfl | rfl | rfl | rfl | rfl
    all_goals
      rw [hh] at q
      simp only [Bool.false_eq_true, if_false] at q
      repeat' split at q
      all_goals omega
  · symm
    apply decide_eq_true
    have hv : ∀ v, v < 9 → v ≠ w → isW T L v p = false := fun v hv hne => by
      cases h2 : isW T L v p
      · rfl
      · exact absurd (h1 v hv hh h2).symm hne
    unfold wd
    have hc : w = 0 ∨ w = 1 ∨ w = 2 ∨ w = 3 ∨ w = 4 ∨ w = 5 ∨ w = 6 ∨ w = 7 ∨ w = 8 := by omega
    rcases hc with rfl | rfl | rfl | rfl | rfl | rfl | rfl | rfl | rfl
    · rw [hh]; rfl
    · rw [hh, hv 0 (by omega) (by omega)]; rfl
    · rw [hh, hv 0 (by omega) (by omega), hv 1 (by omega) (by omega)]; rfl
    · rw [hh, hv 0 (by omega) (by omega), hv 1 (by omega) (by omega), hv 2 (by omega) (by omega)]; rfl
    · rw [hh, hv 0 (by omega) (by omega), hv 1 (by omega) (by omega), hv 2 (by omega) (by omega), hv 3 (by omega) (by omega)]; rfl
    · rw [hh, hv 0 (by omega) (by omega), hv 1 (by omega) (by omega), hv 2 (by omega) (by omega), hv 3 (by omega) (by omega), hv 4 (by omega) (by omega)]; rfl
    · rw [hh, hv 0 (by omega) (by omega), hv 1 (by omega) (by omega), hv 2 (by omega) (by omega), hv 3 (by omega) (by omega), hv 4 (by omega) (by omega), hv 5 (by omega) (by omega)]; rfl
    · rw [hh, hv 0 (by omega) (by omega), hv 1 (by omega) (by omega), hv 2 (by omega) (by omega), hv 3 (by omega) (by omega), hv 4 (by omega) (by omega), hv 5 (by omega) (by omega), hv 6 (by omega) (by omega)]; rfl
    · rw [hh, hv 0 (by omega) (by omega), hv 1 (by omega) (by omega), hv 2 (by omega) (by omega), hv 3 (by omega) (by omega), hv 4 (by omega) (by omega), hv 5 (by omega) (by omega), hv 6 (by omega) (by omega), hv 7 (by omega) (by omega)]; rfl
theorem w8_e : ∀ t, t < 256 → ∀ u, 97 ≤ u → u ≤ 122 → ((nI t).toInt8.toInt32 = nI u ↔ nI t = nI u) := by
  have h : ∀ t, t < 256 → ∀ u, u < 123 → 97 ≤ u → ((nI t).toInt8.toInt32 = nI u ↔ nI t = nI u) := by decide +kernel
  exact fun t ht u h1 h2 => h t ht u (by omega) h1
theorem iw_L (h : JX T L J) {w p : Nat} (hw : w < 9) (h11 : J 306 11 = nI p) (hp : p + wl w ≤ L) : ∀ (d i n : Nat) (a : Bool), i + d = wl w → d < n → fX8_isWord_L32 w n (nI i) (b2i a) J = some (b2i (a && decide (∀ x, x < wl w → i ≤ x → nI (T (p + x)) = wc w x))) := by
  have hL := h.1
  have hw6 := wl_6 w hw
  intro d
  induction d with
  | zero =>
    intro i n a hi hn
    obtain ⟨n, rfl⟩ := fuel hn
    rw [fX8_isWord_L32, zb_sl_n, if_pos (by rw [nI_leP (by omega) (by omega)]; omega), decide_eq_true (fun x a1 a2 => by omega), Bool.and_true]
  | succ d ih =>
    intro i n a hi hn
    obtain ⟨n, rfl⟩ := fuel hn
    obtain ⟨t1, t2, e⟩ := h.2.2 (p + i) (by omega)
    obtain ⟨u, hu, eu, u1, u2, -⟩ := wc_l w hw i (by omega)
    rw [fX8_isWord_L32, zb_sl_n, if_neg (by rw [nI_leP (by omega) (by omega)]; omega)]
    cases a with
    | false => rfl
    | true =>
      rw [if_neg (show ¬ b2i true = 0 by decide), h11, nI_addn, ald_n (by omega) (by omega), ob_s, zb_sc_n hw (by omega), ob_s, plet_d, e, nI_1, Bool.true_and]
      by_cases hx : nI (T (p + i)) = wc w i
      · rw [if_pos (by rw [eu] at hx ⊢; exact (w8_e _ (by omega) u u1 u2).mpr hx), show (1 : Int32) = b2i true from rfl, ih (i + 1) n true (by omega) (by omega), Bool.true_and]
        congr 2
        apply decide_eq_decide.mpr
        constructor
        · intro hy x a1 a2
          by_cases hxi : x = i
          · rw [hxi]; exact hx
          · exact hy x a1 (by omega)
        · exact fun q x a1 a2 => q x a1 (by omega)
      · rw [if_neg (by rw [eu] at hx ⊢; exact fun q => hx ((w8_e _ (by omega) u u1 u2).mp q)), show (0 : Int32) = b2i false from rfl, ih (i + 1) n false (by omega) (by omega), Bool.false_and, decide_eq_false (fun q => hx (q i (by omega) (Nat.le_refl _)))]
theorem iw_0 {w : Nat} (hw : w < 9) : ∀ (d i n : Nat), i + d = wl w → d < n → fX8_isWord_L32 w n (nI i) 0 J = some 0 := by
  have hw6 := wl_6 w hw
  intro d i n hi hn
  obtain ⟨n, rfl⟩ := fuel hn
  rw [fX8_isWord_L32, if_pos (show (0 : Int32) = 0 from rfl)]
  exact ite_self _
theorem isWord_e (h : JX T L J) {w p : Nat} (hw : w < 9) (hp : p ≤ L) (h11 : J 306 11 = nI p) (h12 : J 306 12 = nI (en T L p)) (h13 : J 306 13 = nI (tk T L p)) : fX8_isWord w J = some (b2i (decide (kd T L p = 7 + w))) := by
  have hL := h.1
  have hw6 := wl_6 w hw
  have hT : ∀ i, i < L → T i < 256 := fun i hi => by have := h.2.2 i hi; omega
  have hle : en T L p ≤ L := en_le hp
  have hge := en_ge (T := T) (L := L) p
  have h6 := @kb_6 T L p
  unfold fX8_isWord
  rw [h11, h12, h13, nI_sub hge (by omega), zb_sl_n]
  by_cases hk : p < L ∧ kb T L p = 6
  · have htk : tk T L p = 1 := by unfold tk; rw [if_pos hk.1, if_pos hk.2]
    have hkd : kd T L p = wd T L p := by unfold kd; rw [if_pos hk.1, if_pos hk.2]
    rw [htk, hkd, ← wd_e hT hw hk.1 hk.2, isW_e hT hw hk.1 hk.2, plet_d, if_pos (show nI 1 = 1 from rfl)]
    simp only [nI_eqP (show en T L p - p < 2 ^ 31 by omega) (show wl w < 2 ^ 31 by omega)]
    by_cases he : en T L p - p = wl w
    · rw [if_pos he, show fX8_isWord_L32 w zF 0 1 J = _ from iw_L h hw h11 (by omega) (wl w) 0 zF true (by omega) (zF_g (by omega)), ob_s, zbo_b, ob_s, Bool.true_and]
      congr 2
      apply decide_eq_decide.mpr
      exact ⟨fun q => ⟨he, fun i hi => q i hi (Nat.zero_le _)⟩, fun q x a1 _ => q.2 x a1⟩
    · rw [if_neg he, show fX8_isWord_L32 w zF 0 0 J = _ from iw_0 hw (wl w) 0 zF (by omega) (zF_g (by omega)), ob_s, zbo_0, ob_s, decide_eq_false (fun q => he q.1)]
      rfl
  · have htk : tk T L p ≠ 1 ∧ tk T L p ≤ 5 := by
      unfold tk
      split
      · rw [if_neg (fun q => hk ⟨by omega, q⟩)]
        repeat' split
        all_goals omega
      · omega
    have hkd : kd T L p ≤ 6 := by
      unfold kd
      split
      · rw [if_neg (fun q => hk ⟨by omega, q⟩)]
        exact h6
      · omega
    rw [if_neg (show ¬ nI (tk T L p) = 1 from fun q => htk.1 ((nI_eqP (b := 1) (by omega) (by omega)).mp q)), plet_d, show fX8_isWord_L32 w zF 0 0 J = _ from iw_0 hw (wl w) 0 zF (by omega) (zF_g (by omega)), ob_s, zbo_0, ob_s, decide_eq_false (by omega)]
    rfl
end AD
