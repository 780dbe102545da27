/-! STORMS -/
theorem wear7 {c f l : Nat} {F : Row} {fo a5 a4 : Int32} (h10 : c ≤ 10) (h1 : 1 ≤ c) (hl : l < c) (hf : f ≤ l) : ∀ (d j n : Nat) (I : Mem), j + d = c - 1 → d < n → I 2 0 = nI c → I 12 0 = brS c F → ∃ I', fX5_blow_L21 1 a5 a4 fo (nI f) (nI l) n (nI j) I = some I' ∧ (∀ k i, k ≠ 14 → I' k i = I k i) ∧ (∀ k, k < c - 1 → I' 14 k = if j ≤ k ∧ f ≤ k ∧ k < l ∧ broB F k = false then I 14 k + fo else I 14 k) := by
  intro d
  induction d with
  | zero =>
    intro j n I hj hn I0 hb
    obtain ⟨n, rfl⟩ := fuel hn
    exact ⟨I, by rw [fX5_blow_L21, show I (1 + 1) 0 = nI c from I0, nI_sub1 h1 (by omega), if_pos (by rw [nI_leP (by omega) (by omega)]; omega)], fun _ _ _ => rfl, fun k hk => by rw [if_neg (by omega)]⟩
  | succ d ih =>
    intro j n I hj hn I0 hb
    obtain ⟨n, rfl⟩ := fuel hn
    have hstep : fX5_blow_L21 1 a5 a4 fo (nI f) (nI l) (n + 1) (nI j) I = fX5_blow_L21 1 a5 a4 fo (nI f) (nI l) n (nI (j + 1)) (if f ≤ j ∧ j < l ∧ broB F j = false then wr I 14 j (I 14 j + fo) else I) := by
      rw [fX5_blow_L21, show I (1 + 1) 0 = nI c from I0, nI_sub1 h1 (by omega), if_neg (show ¬ nI (c - 1) ≤ nI j by rw [nI_leP (by omega) (by omega)]; omega), show I (1 + 11) 0 = brS c F from hb, has7 (by omega), ob_s, show bt (brS c F) j = broB F j from has_bsl (by omega) (by omega), ald_n (by omega) (by omega), ob_s, ast_n (by omega) (by omega), ob_s, nI_1]
      by_cases h1 : j < f
      · rw [if_pos (show nI j < nI f by rw [nI_ltP (by omega) (by omega)]; omega), ob_s, if_neg (by omega)]
      · rw [if_neg (show ¬ nI j < nI f by rw [nI_ltP (by omega) (by omega)]; omega)]
        by_cases h3 : l ≤ j
        · rw [if_pos (show nI l ≤ nI j by rw [nI_leP (by omega) (by omega)]; omega), ob_s, if_neg (by omega)]
        · rw [if_neg (show ¬ nI l ≤ nI j by rw [nI_leP (by omega) (by omega)]; omega)]
          cases hbj : broB F j
          · rw [b2i_f, if_pos e00, ob_s, if_pos ⟨by omega, by omega, rfl⟩]
          · rw [b2i_t, if_neg n10, ob_s, if_neg (fun h => by cases h.2.2)]
    rw [hstep]
    by_cases hc : f ≤ j ∧ j < l ∧ broB F j = false
    · rw [if_pos hc]
      obtain ⟨I', a1, a2, a3⟩ := ih (j + 1) n (wr I 14 j (I 14 j + fo)) (by omega) (by omega) ((wr_n (by omega)).trans I0) ((wr_n (by omega)).trans hb)
      refine ⟨I', a1, fun k i hk => (a2 k i hk).trans (wr_n (by omega)), fun k hk => ?_⟩
      rw [a3 k hk]
      by_cases hjk : k = j
      · subst hjk; rw [if_neg (by omega), if_pos ⟨Nat.le_refl _, hc⟩, wr_s]
      · rw [wr_n (by omega)]
        by_cases h : j ≤ k ∧ f ≤ k ∧ k < l ∧ broB F k = false
        · rw [if_pos h, if_pos ⟨by omega, h.2⟩]
        · rw [if_neg h, if_neg (fun h' => h ⟨by omega, h'.2⟩)]
    · rw [if_neg hc]
      obtain ⟨I', a1, a2, a3⟩ := ih (j + 1) n I (by omega) (by omega) I0 hb
      refine ⟨I', a1, a2, fun k hk => ?_⟩
      rw [a3 k hk]
      by_cases hjk : k = j
      · subst hjk; rw [if_neg (by omega), if_neg (fun h => hc h.2)]
      · by_cases h : j ≤ k ∧ f ≤ k ∧ k < l ∧ broB F k = false
        · rw [if_pos h, if_pos ⟨by omega, h.2⟩]
        · rw [if_neg h, if_neg (fun h' => h ⟨by omega, h'.2⟩)]
def wJ (F : Row) (fo B : Int32) (J : Mem) (j : Nat) : Mem := wr (wr J 307 (122 + j) (if broB F j = false then F (122 + j) + fo else F (122 + j))) 307 (132 + j) (if bt B j = true then 1 else F (132 + j))
theorem wear8 {l : Nat} {F : Row} {fo B a2 : Int32} (hl : l < 10) (hw : ∀ k, k < l → F (132 + k) = 0 ∨ F (132 + k) = 1) : ∀ (d j n : Nat) (J : Mem), j + d = l → d < n → (∀ k, j ≤ k → k < 10 → J 307 (122 + k) = F (122 + k) ∧ J 307 (132 + k) = F (132 + k)) →
    ∃ J', fX8_storms_L16 B fo a2 (nI l) n (nI j) J = some J' ∧ (∀ k i, ¬ (k = 307 ∧ ((122 ≤ i ∧ i < 132) ∨ (132 ≤ i ∧ i < 142))) → J' k i = J k i) ∧ (∀ k, k < 10 → J' 307 (122 + k) = if j ≤ k ∧ k < l ∧ broB F k = false then F (122 + k) + fo else J 307 (122 + k)) ∧ (∀ k, k < 10 → J' 307 (132 + k) = if j ≤ k ∧ k < l ∧ bt B k = true then 1 else J 307 (132 + k)) := by
  intro d
  induction d with
  | zero =>
    intro j n J hj hn hF
    obtain ⟨n, rfl⟩ := fuel hn
    exact ⟨J, by rw [fX8_storms_L16, if_pos (by rw [nI_leP (by omega) (by omega)]; omega)], fun _ _ _ => rfl, fun k hk => by rw [if_neg (by omega)], fun k hk => by rw [if_neg (by omega)]⟩
  | succ d ih =>
    intro j n J hj hn hF
    obtain ⟨n, rfl⟩ := fuel hn
    obtain ⟨f1, f2⟩ := hF j (Nat.le_refl _) (by omega)
    have hstep : fX8_storms_L16 B fo a2 (nI l) (n + 1) (nI j) J = fX8_storms_L16 B fo a2 (nI l) n (nI (j + 1)) (wJ F fo B J j) := by
      have e1 : (F (122 + j) + if F (132 + j) = 0 then fo else 0) = if broB F j = false then F (122 + j) + fo else F (122 + j) := by
        unfold broB
        rcases hw j (by omega) with h | h
        · simp [h]
        · simp [h]
      have e2 : ∀ v, wr J 307 (122 + j) v 307 (132 + j) = F (132 + j) := fun v => by rw [wr_n (by omega), f2]
      rw [fX8_storms_L16, if_neg (by rw [nI_leP (by omega) (by omega)]; omega), L122, L132, nI_add, nI_add, ald_n (by omega) (by omega), ob_s, ald_n (by omega) (by omega), ob_s, f1, f2, plet_d, ast_n (by omega) (by omega), ob_s, has8 (by omega), ob_s, ald_n (by omega) (by omega), ob_s, e2, nI_1, e1]
      unfold wJ
      cases hbj : bt B j
      · rw [b2i_f, if_pos e00, ob_s, ast_n (by omega) (by omega)]
        rfl
      · rw [b2i_t, if_neg n10, ob_s, ast_n (by omega) (by omega)]
        rfl
    rw [hstep]
    obtain ⟨J', a1, a2, a3, a4⟩ := ih (j + 1) n (wJ F fo B J j) (by omega) (by omega) (fun k h1 h2 => by unfold wJ; simp (disch := omega) only [wr_n]; exact hF k (by omega) h2)
    refine ⟨J', a1, fun k i h => (a2 k i h).trans (by unfold wJ; simp (disch := omega) only [wr_n]), fun k hk => ?_, fun k hk => ?_⟩
    · rw [a3 k hk]
      by_cases hjk : k = j
      · subst hjk
        rw [if_neg (by omega)]
        unfold wJ
        simp (disch := omega) only [wr_s, wr_n]
        rw [f1]
        by_cases hb : broB F k = false
        · rw [if_pos hb, if_pos ⟨Nat.le_refl _, by omega, hb⟩]
        · rw [if_neg hb, if_neg (fun h => hb h.2.2)]
      · have e : wJ F fo B J j 307 (122 + k) = J 307 (122 + k) := by unfold wJ; simp (disch := omega) only [wr_n]
        rw [e]
        by_cases h : j ≤ k ∧ k < l ∧ broB F k = false
        · rw [if_pos h, if_pos ⟨by omega, h.2⟩]
        · rw [if_neg h, if_neg (fun h' => h ⟨by omega, h'.2⟩)]
    · rw [a4 k hk]
      by_cases hjk : k = j
      · subst hjk
        rw [if_neg (by omega)]
        unfold wJ
        simp (disch := omega) only [wr_s]
        rw [f2]
        by_cases hb : bt B k = true
        · rw [if_pos hb, if_pos ⟨Nat.le_refl _, by omega, hb⟩]
        · rw [if_neg hb, if_neg (fun h => hb h.2.2)]
      · have e : wJ F fo B J j 307 (132 + k) = J 307 (132 + k) := by unfold wJ; simp (disch := omega) only [wr_n]
        rw [e]
        by_cases h : j ≤ k ∧ k < l ∧ bt B k = true
        · rw [if_pos h, if_pos ⟨by omega, h.2⟩]
        · rw [if_neg h, if_neg (fun h' => h ⟨by omega, h'.2⟩)]

theorem ew_storm {c e f l : Nat} {I I' : Mem} {F F' : Row} {fo : Int32} (hW1 : EW c e I 1 F) (hf : f ≤ l) (hl : l < c) (i12 : I' 12 0 = I 12 0 ||| bset F fo f l) (i14 : ∀ k, k < c - 1 → I' 14 k = if f ≤ k ∧ k < l ∧ broB F k = false then I 14 k + fo else I 14 k) (hI : ∀ k j, k ≠ 14 → ¬ (k = 12 ∧ j = 0) → I' k j = I k j)
    (f122 : ∀ k, k < 10 → F' (122 + k) = if f ≤ k ∧ k < l ∧ broB F k = false then F (122 + k) + fo else F (122 + k)) (f132 : ∀ k, k < 10 → F' (132 + k) = if f ≤ k ∧ k < l ∧ bt (bset F fo f l) k = true then 1 else F (132 + k)) (hF : ∀ i, ¬ ((122 ≤ i ∧ i < 132) ∨ (132 ≤ i ∧ i < 142)) → F' i = F i) : EW c e I' 1 F' := by
  have h10 := hW1.c10
  obtain ⟨⟨w1, w2, w3, w4⟩, q1, q2, q3, q4⟩ := hW1
  refine ⟨⟨w1.cg (fun i h1 h2 => hF i (by omega)), w2.cg h10 (fun i h1 h2 h3 => hF i (by omega)), ?_, w4.cg h10 (fun i h1 h2 => hF i (by omega))⟩, ?_, q2.cg h10 (fun k j h1 h2 h3 => hI _ _ (by omega) (by omega)) (fun i h1 h2 h3 => hF i (by omega)), ?_, q4.cg h10 (fun k j h1 h2 => hI _ _ (by omega) (by omega)) (fun i h1 h2 => hF i (by omega))⟩
  · intro j hj
    rw [f132 j (by omega)]
    split
    · exact Or.inr rfl
    · exact w3 j hj
  · obtain ⟨m0, m3, m4, m5, m6, m7, m8, m9, m10, m11, mb, mr⟩ := q1
    refine ⟨?_, ?_, ?_, ?_, ?_, ?_, ?_, ?_, ?_, ?_, ?_, ?_⟩
    · rw [hI 2 0 (by omega) (by omega)]; exact m0
    · rw [hI 1 3 (by omega) (by omega), hF 1 (by omega)]; exact m3
    · rw [hI 1 4 (by omega) (by omega), hF 2 (by omega)]; exact m4
    · rw [hI 1 5 (by omega) (by omega), hF 3 (by omega)]; exact m5
    · rw [hI 1 6 (by omega) (by omega), hF 4 (by omega)]; exact m6
    · rw [hI 1 7 (by omega) (by omega), hF 5 (by omega)]; exact m7
    · rw [hI 1 8 (by omega) (by omega), hF 7 (by omega)]; exact m8
    · rw [hI 1 9 (by omega) (by omega), hF 8 (by omega)]; exact m9
    · rw [hI 1 10 (by omega) (by omega), hF 9 (by omega)]; exact m10
    · rw [hI 1 11 (by omega) (by omega), hF 10 (by omega)]; exact m11
    · rw [i12, show I 12 0 = _ from mb]
      apply b_ext
      intro i hi
      unfold bset
      rw [b_or, b_bsl hi _ _ _ (by omega), b_bsl hi _ _ _ (by omega), b_bsl hi _ _ _ (by omega), b_0]
      by_cases hic : i < c - 1
      · have hb : bt (bset F fo f l) i = (decide (f ≤ i) && decide (i < l) && bq F fo i) := by
          unfold bset
          rw [b_bsl hi _ _ _ (by omega), b_0]
          by_cases h1 : f ≤ i
          · by_cases h2 : i < l
            · simp [h1, h2, show i < f + (l - f) by omega]
            · simp [h1, h2, show ¬ i < f + (l - f) by omega]
          · simp [h1]
        have hbF : broB F' i = ((decide (f ≤ i) && decide (i < l) && bq F fo i) || broB F i) := by
          unfold broB
          rw [f132 i (by omega), hb]
          by_cases h1 : f ≤ i ∧ i < l
          · cases hq : bq F fo i
            · simp [h1.1, h1.2]
            · simp [h1.1, h1.2]
          · rw [if_neg (fun h => h1 ⟨h.1, h.2.1⟩)]
            by_cases h2 : f ≤ i
            · simp [h2, show ¬ i < l by omega]
            · simp [h2]
        rw [hbF]
        by_cases h1 : f ≤ i
        · by_cases h2 : i < l
          · simp [hic, h1, h2, show i < f + (l - f) by omega, Bool.or_comm]
          · simp [hic, h1, h2, show ¬ i < f + (l - f) by omega]
        · simp [hic, h1]
      · simp [hic, show ¬ i < f + (l - f) by omega]
    · rw [hI 2 1 (by omega) (by omega), show I 2 1 = _ from mr]
      exact bsl_cong (fun i hi => by unfold hasB; rw [hF (92 + i) (by omega)])
  · intro j hj
    rw [hI 13 j (by omega) (by omega), i14 j (by omega), hF (112 + j) (by omega), f122 j (by omega)]
    obtain ⟨y1, y2⟩ := q3 j hj
    refine ⟨y1, ?_⟩
    rw [show I 14 j = _ from y2]

theorem sus_L {c e : Nat} {s : Int32} : ∀ (d j n m : Nat) (I J : Mem), j + d = c → d < n → d < m → EW c e I 1 (J 307) → ∃ I' J', fX5_blow_L99 1 s n (nI j) I = some I' ∧ fX8_storms_L112 s m (nI j) J = some J' ∧ EW c e I' 1 (J' 307) ∧ (∀ k i, ¬ (7 ≤ k ∧ k ≤ 10) → I' k i = I k i) ∧ (∀ k i, ¬ (k = 307 ∧ 52 ≤ i ∧ i < 92) → J' k i = J k i) := by
  intro d
  induction d with
  | zero =>
    intro j n m I J hj hn hm hW
    have h10 := hW.c10
    obtain ⟨n, rfl⟩ := fuel hn
    obtain ⟨m, rfl⟩ := fuel hm
    refine ⟨I, J, ?_, ?_, hW, fun _ _ _ => rfl, fun _ _ _ => rfl⟩
    · rw [fX5_blow_L99, show I (1 + 1) 0 = nI c from hW.2.1.1, if_pos (by rw [nI_leP (by omega) (by omega)]; omega)]
    · rw [fX8_storms_L112, ald_0 (by omega) (by omega), hW.1.1.2.2.1, ob_s, if_pos (by rw [nI_leP (by omega) (by omega)]; omega)]
  | succ d ih =>
    intro j n m I J hj hn hm hW
    have h10 := hW.c10
    obtain ⟨n, rfl⟩ := fuel hn
    obtain ⟨m, rfl⟩ := fuel hm
    have I0 : I 2 0 = nI c := hW.2.1.1
    have ncj : ¬ nI c ≤ nI j := by rw [nI_leP (by omega) (by omega)]; omega
    have e7 : I 7 j = J 307 (52 + j) := (hW.2.2.1 j (by omega)).2.2.2.2.1
    rw [fX5_blow_L99, show I (1 + 1) 0 = nI c from I0, if_neg ncj, has7 (by omega), ald_n (by omega) (by omega), show I (1 + 6) j = J 307 (52 + j) from e7, susp7 I0 h10 (by omega), fX8_storms_L112, ald_0 (by omega) (by omega), hW.1.1.2.2.1, has8 (by omega), L52, nI_add, ald_n (by omega) (by omega), susp8 (by omega), nI_1]
    simp only [ob_s]
    rw [if_neg ncj]
    have skip := ih (j + 1) n m I J (by omega) (by omega) (by omega) hW
    cases hs : bt s j
    · rw [b2i_f, if_pos e00, if_pos e00, ob_s, ob_s]
      exact skip
    · rw [b2i_t, if_neg n10, if_neg n10]
      by_cases h2 : J 307 (52 + j) = 2
      · rw [if_pos h2, if_pos h2, ob_s, ob_s]
        exact skip
      · rw [if_neg h2, if_neg h2, ob_s, ob_s]
        obtain ⟨I', J', a1, a2, a3, a4, a5⟩ := ih (j + 1) n m (sI I j) (sJ J j) (by omega) (by omega) (by omega) (ew_susp hW (by omega))
        refine ⟨I', J', a1, a2, a3, fun k i h => (a4 k i h).trans ?_, fun k i h => (a5 k i h).trans ?_⟩
        · unfold sI; simp (disch := omega) only [wr_n]
        · unfold sJ; simp (disch := omega) only [wr_n]

theorem ew_count {c e : Nat} {I J : Mem} (hW1 : EW c e I 1 (J 307)) : EW c e (wr I 1 8 (I 1 8 + 1)) 1 (wr J 307 7 (J 307 7 + 1) 307) := by
  have h10 := hW1.c10
  obtain ⟨⟨w1, w2, w3, w4⟩, q1, q2, q3, q4⟩ := hW1
  refine ⟨⟨w1.cg (fun i h1 h2 => by simp (disch := omega) only [wr_n]), w2.cg h10 (fun i h1 h2 h3 => by simp (disch := omega) only [wr_n]), w3.cg h10 (fun i h1 h2 => by simp (disch := omega) only [wr_n]), w4.cg h10 (fun i h1 h2 => by simp (disch := omega) only [wr_n])⟩, ?_, q2.cg h10 (fun k j h1 h2 h3 => by simp (disch := omega) only [wr_n]) (fun i h1 h2 h3 => by simp (disch := omega) only [wr_n]), q3.cg h10 (fun k j h1 h2 h3 => by simp (disch := omega) only [wr_n]) (fun i h1 h2 => by simp (disch := omega) only [wr_n]), q4.cg h10 (fun k j h1 h2 => by simp (disch := omega) only [wr_n]) (fun i h1 h2 => by simp (disch := omega) only [wr_n])⟩
  · obtain ⟨m0, m3, m4, m5, m6, m7, m8, m9, m10, m11, mb, mr⟩ := q1
    refine ⟨?_, ?_, ?_, ?_, ?_, ?_, ?_, ?_, ?_, ?_, ?_, ?_⟩
    all_goals simp (disch := omega) only [wr_s, wr_n]
    · exact m0
    · exact m3
    · exact m4
    · exact m5
    · exact m6
    · exact m7
    · rw [m8]
    · exact m9
    · exact m10
    · exact m11
    · rw [mb]
      exact bsl_cong (fun i hi => by unfold broB; simp (disch := omega) only [wr_n])
    · rw [mr]
      exact bsl_cong (fun i hi => by unfold hasB; simp (disch := omega) only [wr_n])

theorem act_storm {E j f l : Nat} {I J : Mem} (hR : RelB E I J) (hE : E < 2 ^ 29) (h1 : 1 ≤ j) (h3 : j < 100) (hf : f ≤ l) (hl : nI l < J 307 0) (hl2 : l < 2 ^ 31) : ∃ v I' J', fX7_storm (nI j) (nI f) (nI l) I = some (0, v, I') ∧ fX8_storms (nI j) (nI f) (nI l) J = some (v, J') ∧ RelB E I' J' ∧ J' 306 0 = J 306 0 := by
  obtain ⟨c, e, ⟨hc2, h10, h30, he⟩, ⟨J0, -, -⟩, ⟨I0, -⟩, hW⟩ := hR.at hE
  rw [J0, nI_ltP (by omega) (by omega)] at hl
  obtain ⟨I1, J1, b1, b2, b3, b4, b5, b6⟩ := begin_at hR
  have hW1 : EW c e I1 1 (J1 307) := by rw [b5]; exact hW.bI b4
  have I10 : I1 2 0 = nI c := hW1.2.1.1
  have hbr : I1 12 0 = brS c (J1 307) := hW1.2.1.2.2.2.2.2.2.2.2.2.2.1
  have k7 := brk7 (fo := nI j) hW1 hf hl
  have k8 := brk8 (fo := nI j) hW1 rfl hf hl
  obtain ⟨I2, w1, w2, w3⟩ := wear7 (f := f) (fo := nI j) (a5 := bset (J1 307) (nI j) f l) (F := J1 307) h10 (by omega) hl hf (c - 1) 0 zF I1 (by omega) (zF_g (by omega)) I10 hbr (a4 := (0 : Int32))
  obtain ⟨J2, x1, x2, x3, x4⟩ := wear8 (F := J1 307) (fo := nI j) (B := bset (J1 307) (nI j) f l) (a2 := nI f) (l := l) (by omega) (fun k hk => hW1.1.2.2.1 k (by omega)) (l - f) f zF J1 (by omega) (zF_g (by omega)) (fun k _ _ => ⟨rfl, rfl⟩)
  have hW2 : EW c e (wr I2 12 0 (I2 12 0 ||| bset (J1 307) (nI j) f l)) 1 (J2 307) := by
    refine ew_storm (fo := nI j) hW1 hf hl ?_ (fun k hk => ?_) (fun k i h1 h2 => ?_) x3 x4 (fun i h => x2 _ _ (by omega))
    · rw [wr_s, w2 _ _ (by omega)]
    · rw [wr_n (by omega), w3 k hk]
      simp
    · rw [wr_n (by omega), w2 k i h1]
  have J20 : J2 307 0 = nI c := hW2.1.1.2.2.1
  have hB : brS c (J2 307) = brS c (J1 307) ||| bset (J1 307) (nI j) f l := by
    have a := hW2.2.1.2.2.2.2.2.2.2.2.2.2.1
    have a' : wr I2 12 0 (I2 12 0 ||| bset (J1 307) (nI j) f l) 12 0 = brS c (J2 307) := a
    rw [wr_s, w2 _ _ (by omega), hbr] at a'
    exact a'.symm
  obtain ⟨r, r1, r2⟩ := dr_all (I := I1) (J := J2) (F := J2 307) (B := brS c (J1 307) ||| bset (J1 307) (nI j) f l) (fo := nI j) (f := nI f) (l := nI l) I10 h10 (fun k hk => ((hW1.2.2.1 k hk).2.2.1).trans (x2 _ _ (by omega)).symm) rfl J20 c 0 zF zF 0 (by omega) (zF_g (by omega)) (zF_g (by omega))
  have hdr7 : fX5_drifting 1 (nI j) (nI f) (nI l) I1 = some r := by
    unfold fX5_drifting
    rw [k7, ob_s, show I1 (1 + 11) 0 = brS c (J1 307) from hbr, show fX5_drifting_L32 1 (brS c (J1 307) ||| bset (J1 307) (nI j) f l) (nI j) (nI f) (nI l) zF 0 0 0 0 0 I1 = _ from r1]
    rfl
  have hdr8 : fX8_drifts (nI j) (nI f) (nI l) (brS c (J1 307) ||| bset (J1 307) (nI j) f l) J2 = some r := by
    unfold fX8_drifts
    rw [show fX8_drifts_L6 (nI j) (nI f) (nI l) (brS c (J1 307) ||| bset (J1 307) (nI j) f l) zF 0 0 J2 = _ from r2]
    rfl
  obtain ⟨I3, J3, s1, s2, s3, s4, s5⟩ := sus_L (s := r) c 0 zF zF (wr I2 12 0 (I2 12 0 ||| bset (J1 307) (nI j) f l)) J2 (by omega) (zF_g (by omega)) (zF_g (by omega)) hW2
  have w1r : fX5_blow_L21 1 (bset (J1 307) (nI j) f l) r (nI j) (nI f) (nI l) zF 0 I1 = some I2 := by
    obtain ⟨I2', w1', w2', w3'⟩ := wear7 (f := f) (fo := nI j) (a5 := bset (J1 307) (nI j) f l) (F := J1 307) h10 (by omega) hl hf (c - 1) 0 zF I1 (by omega) (zF_g (by omega)) I10 hbr (a4 := r)
    have sm : ∀ (d n : Nat) (x : Int32) (I : Mem), fX5_blow_L21 1 (bset (J1 307) (nI j) f l) r (nI j) (nI f) (nI l) n x I = fX5_blow_L21 1 (bset (J1 307) (nI j) f l) 0 (nI j) (nI f) (nI l) n x I := by
      intro _ n
      induction n with
      | zero => intro x I; rfl
      | succ n ihn =>
        intro x I
        rw [fX5_blow_L21, fX5_blow_L21]
        simp only [ihn]
    rw [sm 0]
    exact w1
  refine ⟨r, wr I3 1 8 (I3 1 8 + 1), wr J3 307 7 (J3 307 7 + 1), ?_, ?_, RelB.set (Nat.le_refl _) b3 (fun k i h1 h2 => ?_) (fun k i h1 h2 => ?_) ⟨c, e, he, ew_count s3⟩, ?_⟩
  · unfold fX7_storm fX5_blow
    rw [chkS_i I0 h10 h1 h3 hf hl, ob_s, if_pos rfl, b1, ob_s, hdr7, ob_s, k7, ob_s, w1r, ob_s, show fX5_blow_L99 1 r zF 0 (wr I2 (1 + 11) 0 (I2 (1 + 11) 0 ||| bset (J1 307) (nI j) f l)) = _ from s1]
    rfl
  · unfold fX8_storms
    rw [b2, ob_s, k8, ob_s, x1, ob_s, brok_e J20 (by omega) h10, ob_s, show bsl (broB (J2 307)) 0 (c - 1) 0 = brS c (J2 307) from rfl, hB, hdr8, ob_s, show fX8_storms_L112 r zF 0 J2 = _ from s2, ob_s, L7, ald_n (by omega) (by omega), ob_s, ast_n (by omega) (by omega)]
    rfl
  · rw [wr_n (by omega), s4 k i (by omega), wr_n (by omega), w2 k i (by omega)]
  · rw [wr_n (by omega), s5 k i (by omega), x2 k i (by omega)]
  · rw [wr_n (by omega), s5 _ _ (by omega), x2 _ _ (by omega)]
    exact b6
theorem q_31 : eqP_31 Rel := by
  intro n I J hn hR p0 p1 p2
  obtain ⟨c, e, ⟨h2, h10, h30, -⟩, ⟨J0, J5, J6⟩, ⟨I0, I7⟩, hW⟩ := hR.facts hn
  have t0 : (wr J 306 0 0) 306 0 = 0 := wr_s
  have K0 : (wr J 306 0 0) 307 0 = nI c := w7.trans J0
  rcases storm_cases (I := I) (J := wr J 306 0 0) h2 h10 I0 t0 K0 p0 p1 p2 with ⟨j, f, l, h1, h3, hf, hl, rfl, rfl, rfl⟩ | ⟨a1, a2⟩ | ⟨a1, a2⟩
  · obtain ⟨r, I', J', r1, r2, r3, r4⟩ := act_storm (E := 7 * (n + 6)) (Rel.J0 hR 0) (by omega) h1 h3 hf (by rw [K0, nI_ltP (by omega) (by omega)]; exact hl) (by omega)
    refine ⟨0, r, I', r, J', r1, ?_, r3, Or.inl ⟨rfl, r4.trans t0, rfl⟩⟩
    unfold fX8_storm
    rw [noS_i t0 K0 h10 h1 h3 hf hl, ob2_some, if_pos e00, r2]
    rfl
  · exact ⟨1, 0, I, 0, wr (wr J 306 0 0) 306 0 1, by unfold fX7_storm; rw [a1]; rfl, by unfold fX8_storm; rw [a2]; rfl, wJ0 hR 1, Or.inr (Or.inl ⟨rfl, wr_s⟩)⟩
  · exact ⟨2, 0, I, 0, wr (wr J 306 0 0) 306 0 2, by unfold fX7_storm; rw [a1]; rfl, by unfold fX8_storm; rw [a2]; rfl, wJ0 hR 2, Or.inr (Or.inr ⟨rfl, wr_s⟩)⟩
