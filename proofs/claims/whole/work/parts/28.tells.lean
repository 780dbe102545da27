/-! THE TALLY OF THE REFERENCE -/
theorem up_L {J : Mem} {c : Nat} {s v : Int32} {W : Nat → Int32} (hc : J 307 0 = nI c) (h10 : c ≤ 10) (hW : ∀ i, i < c → bt s i = true → J 315 i = W i) : ∀ (d j n : Nat) (a : Int32), j + d = c → d < n → fX8_votesUpTo_L5 s v n (nI j) a J = some (vsum (fun j => J 307 (22 + j)) (fun j => bt s j && decide (¬ v < W j)) j d a) := by
  intro d
  induction d with
  | zero =>
    intro j n a hj hn
    obtain ⟨n, rfl⟩ := fuel hn
    rw [fX8_votesUpTo_L5, ald_0 (by omega) (by omega), hc, ob_s, if_pos (by rw [nI_leP (by omega) (by omega)]; omega)]
    rfl
  | succ d ih =>
    intro j n a hj hn
    obtain ⟨n, rfl⟩ := fuel hn
    have hstep : fX8_votesUpTo_L5 s v (n + 1) (nI j) a J = fX8_votesUpTo_L5 s v n (nI (j + 1)) (if (bt s j && decide (¬ v < W j)) = true then a + J 307 (22 + j) else a) J := by
      rw [fX8_votesUpTo_L5, ald_0 (by omega) (by omega), hc, ob_s, if_neg (by rw [nI_leP (by omega) (by omega)]; omega), has8 (by omega), ob_s, ite_b2i, L22, nI_add, nI_1]
      cases hs : bt s j
      · simp only [Bool.false_eq_true, if_false, Bool.false_and, ob_s, Int32.add_zero]
      · rw [ald_n (by omega) (by omega), ald_n (by omega) (by omega), hW j (by omega) hs]
        by_cases h : v < W j
        · simp only [h, if_true, ob_s, not_true_eq_false, decide_false, Bool.and_false, Bool.false_eq_true, if_false, Int32.add_zero]
        · simp only [h, if_true, ob_s, not_false_eq_true, decide_true, Bool.and_true, if_false]
    rw [hstep]
    exact ih (j + 1) n _ (by omega) (by omega)
theorem up_e {J : Mem} {c : Nat} {s v : Int32} {W : Nat → Int32} (hc : J 307 0 = nI c) (h10 : c ≤ 10) (hW : ∀ i, i < c → bt s i = true → J 315 i = W i) : fX8_votesUpTo s v J = some (tUp c s (fun j => J 307 (22 + j)) W v) := by
  unfold fX8_votesUpTo
  rw [show fX8_votesUpTo_L5 s v zF 0 0 J = _ from up_L hc h10 hW c 0 zF 0 (by omega) (zF_g (by omega))]
  rfl
theorem tm_L {J : Mem} {c : Nat} {s : Int32} {W : Nat → Int32} (hc : J 307 0 = nI c) (h10 : c ≤ 10) (hW : ∀ i, i < c → bt s i = true → J 315 i = W i) : ∀ (d j n : Nat) (a : Int32), j + d = c → d < n → fX8_tells_L32 (tAll c s (fun j => J 307 (22 + j))) s n (nI j) a J = some (itr (tMidf c s (fun j => J 307 (22 + j)) W) j d a) := by
  intro d
  induction d with
  | zero =>
    intro j n a hj hn
    obtain ⟨n, rfl⟩ := fuel hn
    rw [fX8_tells_L32, ald_0 (by omega) (by omega), hc, ob_s, if_pos (by rw [nI_leP (by omega) (by omega)]; omega)]
    rfl
  | succ d ih =>
    intro j n a hj hn
    obtain ⟨n, rfl⟩ := fuel hn
    have hstep : fX8_tells_L32 (tAll c s (fun j => J 307 (22 + j))) s (n + 1) (nI j) a J = fX8_tells_L32 (tAll c s (fun j => J 307 (22 + j))) s n (nI (j + 1)) (tMidf c s (fun j => J 307 (22 + j)) W j a) J := by
      rw [fX8_tells_L32, ald_0 (by omega) (by omega), hc, ob_s, if_neg (by rw [nI_leP (by omega) (by omega)]; omega), has8 (by omega), ob_s, ite_b2i, nI_1, ald_n (by omega) (by omega)]
      unfold tMidf
      cases hs : bt s j
      · simp only [Bool.false_eq_true, if_false, ob_s]
      · rw [hW j (by omega) hs, ob_s, ob_s, up_e hc h10 hW, ob_s, ob_s]
        simp (disch := omega) only [ob_s, ob2_some, ob3_some, ob4_some, pl2_mk, pl3_mk, pl4_mk, plet_d, reduceIte, ite_some, zbo_b, zbo_0, zbo_1, ite_b2i, ite_b2i1, b2i_t, b2i_f, Nat.succ_ne_zero, Nat.one_ne_zero, if_true, if_false, Bool.false_eq_true, wr_s, ite_self]
    rw [hstep]
    exact ih (j + 1) n _ (by omega) (by omega)
theorem off8 {x m : Int32} : fX8_off x m = some (offI x m) := by
  unfold fX8_off offI
  rw [plet_d]
theorem ts_st {c : Nat} {s tol m a2 a4 : Int32} {V W : Nat → Int32} {j n : Nat} {J : Mem} (h10 : c ≤ 10) (hj : j < c) (hc : J 307 0 = nI c) (ht : J 307 1 = tol) (hV : bt s j = true → J 307 (22 + j) = V j) (hW : bt s j = true → J 315 j = W j) :
    fX8_tells_L101 m a2 s (n + 1) (nI j) a4 J = fX8_tells_L101 m a2 s n (nI (j + 1)) (if tIn s W tol m j then a4 + V j * W j else a4) (if tIn s W tol m j then wr J 306 19 (J 306 19 ||| bit1 j) else J) := by
  rw [fX8_tells_L101, ald_0 (by omega) (by omega), hc, ob_s, if_neg (by rw [nI_leP (by omega) (by omega)]; omega), has8 (by omega), ob_s, ite_b2i, nI_1, ald_n (by omega) (by omega), L22, nI_add, ald_n (by omega) (by omega), ald_n (by omega) (by omega), ald_1 (by omega) (by omega), ht, wr_k (by decide), wr_k (by decide)]
  unfold tIn
  cases hs : bt s j
  · simp only [Bool.false_eq_true, if_false, Bool.false_and, ob2_some]
  · rw [hV hs, hW hs, if_pos rfl, ob_s, off8, ob_s, ob_s, Bool.true_and]
    by_cases ho : tol < offI (W j) m
    · rw [if_pos ho, ob2_some, decide_eq_false (by simpa using ho)]
      rfl
    · rw [if_neg ho, ob_s, ob_s, ob2_some, decide_eq_true ho]
      rfl
theorem ts_L {c : Nat} {s tol m a2 : Int32} {V W : Nat → Int32} (h10 : c ≤ 10) : ∀ (d j n : Nat) (a4 : Int32) (J : Mem), j + d = c → d < n → J 307 0 = nI c → J 307 1 = tol → (∀ i, i < c → bt s i = true → J 307 (22 + i) = V i) → (∀ i, i < c → bt s i = true → J 315 i = W i) →
    ∃ J', fX8_tells_L101 m a2 s n (nI j) a4 J = some (vsum (fun j => V j * W j) (tIn s W tol m) j d a4, J') ∧ (∀ k i, ¬ (k = 306 ∧ i = 19) → J' k i = J k i) ∧ J' 306 19 = bsl (tIn s W tol m) j d (J 306 19) := by
  intro d
  induction d with
  | zero =>
    intro j n a4 J hj hn hc ht hV hW
    obtain ⟨n, rfl⟩ := fuel hn
    exact ⟨J, by rw [fX8_tells_L101, ald_0 (by omega) (by omega), hc, ob_s, if_pos (by rw [nI_leP (by omega) (by omega)]; omega)]; rfl, fun _ _ _ => rfl, rfl⟩
  | succ d ih =>
    intro j n a4 J hj hn hc ht hV hW
    obtain ⟨n, rfl⟩ := fuel hn
    rw [ts_st h10 (by omega) hc ht (hV j (by omega)) (hW j (by omega))]
    cases hin : tIn s W tol m j
    · simp only [Bool.false_eq_true, if_false]
      obtain ⟨J', h1, h2, h3⟩ := ih (j + 1) n a4 J (by omega) (by omega) hc ht hV hW
      refine ⟨J', ?_, h2, ?_⟩
      · rw [h1]
        show _ = some (vsum _ _ (j + 1) d (if tIn s W tol m j = true then a4 + V j * W j else a4), J')
        rw [hin]
        rfl
      · rw [h3]
        show _ = bsl _ (j + 1) d (if tIn s W tol m j = true then J 306 19 ||| bit1 j else J 306 19)
        rw [hin]
        rfl
    · simp only [if_true]
      have w3 : ∀ k i, k ≠ 306 → wr J 306 19 (J 306 19 ||| bit1 j) k i = J k i := fun k i h => wr_k h
      obtain ⟨J', h1, h2, h3⟩ := ih (j + 1) n (a4 + V j * W j) (wr J 306 19 (J 306 19 ||| bit1 j)) (by omega) (by omega) ((w3 _ _ (by decide)).trans hc) ((w3 _ _ (by decide)).trans ht) (fun i hi hb => (w3 _ _ (by decide)).trans (hV i hi hb)) (fun i hi hb => (w3 _ _ (by decide)).trans (hW i hi hb))
      refine ⟨J', ?_, fun k i h => ?_, ?_⟩
      · rw [h1]
        show _ = some (vsum _ _ (j + 1) d (if tIn s W tol m j = true then a4 + V j * W j else a4), J')
        rw [hin]
        rfl
      · rw [h2 k i h]
        simp only [wr, if_neg h]
      · rw [h3, wr_s]
        show _ = bsl _ (j + 1) d (if tIn s W tol m j = true then J 306 19 ||| bit1 j else J 306 19)
        rw [hin]
        rfl
theorem sup_in {c : Nat} {s tol m : Int32} {W : Nat → Int32} {j : Nat} (hj : j < c) (hc : c ≤ 10) : bt (tSup c s W tol m) j = tIn s W tol m j := has_bsl hj (by omega)
/-- what the reference's tally tells -/
theorem tells_e {c : Nat} {s tol : Int32} {V W : Nat → Int32} {J : Mem} (hc : J 307 0 = nI c) (ht : J 307 1 = tol) (hV : ∀ i, i < c → J 307 (22 + i) = V i) (hW : ∀ i, i < c → bt s i = true → J 315 i = W i) (hok : tOk c s V W) :
    ∃ J', fX8_tells s J = some J' ∧ (∀ k i, ¬ (k = 306 ∧ 19 ≤ i ∧ i ≤ 21) → J' k i = J k i) ∧ J' 306 19 = tSup c s W tol (tMid c s V W 100000) ∧ J' 306 20 = b2i (tHas c s V W tol (tMid c s V W 100000)) ∧ J' 306 21 = tLev c s V W tol (tMid c s V W 100000) := by
  have h10 := hok.1
  have eV : ∀ p : Nat → Bool, vsum (fun j => J 307 (22 + j)) p 0 c 0 = vsum V p 0 c 0 := fun p => vsum_cong fun i _ hi => ⟨hV i (by omega), rfl⟩
  have eA : tAll c s (fun j => J 307 (22 + j)) = tAll c s V := eV _
  have eM : tMid c s (fun j => J 307 (22 + j)) W 100000 = tMid c s V W 100000 := tMid_cong fun j hj _ => ⟨hV j hj, rfl⟩
  unfold fX8_tells
  rw [vot_e hc h10, ob_s, zput_0, ob_s, show vsum (fun j => J 307 (22 + j)) (bt s) 0 c 0 = tAll c s (fun j => J 307 (22 + j)) from rfl]
  by_cases hs : s = 0
  · have hb : ∀ i, bt s i = false := fun i => by rw [hs]; exact b_0 i
    have z1 : tSup c s W tol (tMid c s V W 100000) = 0 := by
      apply b_ext
      intro i hi
      rw [b_0]
      by_cases h : i < c
      · rw [sup_in h h10]; unfold tIn; rw [hb]; rfl
      · exact bsl_hi (by omega) (by omega)
    have z2 : tHas c s V W tol (tMid c s V W 100000) = false := by
      have a1 : tSpt c s V W tol (tMid c s V W 100000) = 0 := by
        unfold tSpt vsum
        exact itr_id _ _ _ fun i a _ _ => by unfold tIn; rw [hb]; rfl
      have a2 : tAll c s V = 0 := by
        unfold tAll vsum
        exact itr_id _ _ _ fun i a _ _ => by rw [hb]; rfl
      unfold tHas
      rw [a1, a2]
      decide
    have z3 : tLev c s V W tol (tMid c s V W 100000) = 0 := by unfold tLev; rw [z2]; rfl
    rw [if_pos hs]
    refine ⟨_, rfl, fun k i h => ?_, ?_, ?_, ?_⟩
    · simp only [wr]
      rw [if_neg (by omega), if_neg (by omega), if_neg (by omega)]
    · rw [z1]; rfl
    · rw [z2]; rfl
    · rw [z3]; rfl
  · rw [if_neg hs]
    have w3 : ∀ k i, k ≠ 306 → wr (wr (wr J 306 19 0) 306 20 0) 306 21 0 k i = J k i := fun k i h => by rw [wr_k h, wr_k h, wr_k h]
    have J1c : wr (wr (wr J 306 19 0) 306 20 0) 306 21 0 307 0 = nI c := (w3 _ _ (by decide)).trans hc
    have f22 : (fun j => wr (wr (wr J 306 19 0) 306 20 0) 306 21 0 307 (22 + j)) = fun j => J 307 (22 + j) := funext fun j => w3 _ _ (by decide)
    have hm := tm_L (J := wr (wr (wr J 306 19 0) 306 20 0) 306 21 0) J1c h10 (s := s) (W := W) (fun i hi hb => (w3 _ _ (by decide)).trans (hW i hi hb)) c 0 zF 100000 (by omega) (zF_g (by omega))
    rw [f22] at hm
    rw [show fX8_tells_L32 (tAll c s fun j => J 307 (22 + j)) s zF 0 100000 (wr (wr (wr J 306 19 0) 306 20 0) 306 21 0) = _ from hm, ob_s]
    rw [show itr (tMidf c s (fun j => J 307 (22 + j)) W) 0 c 100000 = tMid c s (fun j => J 307 (22 + j)) W 100000 from rfl, eM, eA]
    obtain ⟨J2, b1, b2, b3⟩ := ts_L (m := tMid c s V W 100000) (a2 := tAll c s V) (tol := tol) (s := s) (V := V) (W := W) h10 c 0 zF 0 (wr (wr (wr J 306 19 0) 306 20 0) 306 21 0) (by omega) (zF_g (by omega)) J1c ((w3 _ _ (by decide)).trans ht) (fun i hi _ => (w3 _ _ (by decide)).trans (hV i hi)) (fun i hi hb => (w3 _ _ (by decide)).trans (hW i hi hb))
    rw [show fX8_tells_L101 (tMid c s V W 100000) (tAll c s V) s zF 0 0 (wr (wr (wr J 306 19 0) 306 20 0) 306 21 0) = _ from b1, ob2_some]
    have b3 : J2 306 19 = tSup c s W tol (tMid c s V W 100000) := b3
    have J2c : J2 307 0 = nI c := (b2 _ _ (by omega)).trans J1c
    have eS : vsum (fun j => J2 307 (22 + j)) (bt (J2 306 19)) 0 c 0 = tSpt c s V W tol (tMid c s V W 100000) := by
      rw [b3]
      exact vsum_cong fun i _ hi => ⟨((b2 _ _ (by omega)).trans (w3 _ _ (by decide))).trans (hV i (by omega)), sup_in (by omega) h10⟩
    rw [vot_e J2c h10, eS, ob_s]
    have eH : (if 2 * tSpt c s V W tol (tMid c s V W 100000) ≤ tAll c s V then (0 : Int32) else 1) = b2i (tHas c s V W tol (tMid c s V W 100000)) := by
      unfold tHas b2i
      by_cases h : 2 * tSpt c s V W tol (tMid c s V W 100000) ≤ tAll c s V
      · simp [h]
      · simp [h]
    rw [plet_d, eH, zput_b, ob_s, wr_s]
    refine ⟨wr (wr J2 306 20 (b2i (tHas c s V W tol (tMid c s V W 100000)))) 306 21 (tLev c s V W tol (tMid c s V W 100000)), ?_, fun k i h => ?_, ?_, ?_, ?_⟩
    · unfold tLev
      cases hh : tHas c s V W tol (tMid c s V W 100000)
      · rfl
      · have e0 : vsum (fun j => V j * W j) (tIn s W tol (tMid c s V W 100000)) 0 c 0 = tSum c s V W tol (tMid c s V W 100000) := rfl
        rw [e0, floor_e (spt_pos hok hh)]
        rfl
    · simp only [wr]
      rw [if_neg (by omega), if_neg (by omega), b2 k i (by omega)]
      simp only [wr]
      rw [if_neg (by omega), if_neg (by omega), if_neg (by omega)]
    · rw [wr_j (by decide), wr_j (by decide), b3]
    · rw [wr_j (by decide), wr_s]
    · rw [wr_s]
/-- values laid for an hour -/
theorem lays_L {e h : Nat} (h30 : e < 2 ^ 30) (k : kept e h) : ∀ (d j n : Nat) (J : Mem), j + d = 10 → d < n → J 307 5 = nI e → J 307 6 = nI (min e 24) → ∃ J', fX8_laysValues_L2 (nI h) n (nI j) J = some J' ∧ (∀ k i, k ≠ 315 → J' k i = J k i) ∧ (∀ i, i < 10 → J' 315 i = if j ≤ i then J 307 (hp e h + 8 + i) else J 315 i) := by
  intro d
  induction d with
  | zero =>
    intro j n J hj hn h5 h6
    obtain ⟨n, rfl⟩ := fuel hn
    exact ⟨J, by rw [fX8_laysValues_L2, L10, if_pos (by rw [nI_leP (by omega) (by omega)]; omega)], fun _ _ _ => rfl, fun i hi => by rw [if_neg (by omega)]⟩
  | succ d ih =>
    intro j n J hj hn h5 h6
    obtain ⟨n, rfl⟩ := fuel hn
    rw [fX8_laysValues_L2, L10, if_neg (by rw [nI_leP (by omega) (by omega)]; omega), L8, nI_add, of_e h5 h6 h30 k (by omega), ob_s, ast_n (by omega) (by omega), ob_s, nI_1]
    obtain ⟨J', a1, a2, a3⟩ := ih (j + 1) n (wr J 315 j (J 307 (hp e h + (8 + j)))) (by omega) (by omega) ((wr_k (by decide)).trans h5) ((wr_k (by decide)).trans h6)
    refine ⟨J', a1, fun k i hk => (a2 k i hk).trans (wr_k hk), fun i hi => ?_⟩
    rw [a3 i hi, wr_k (by decide)]
    by_cases hji : j + 1 ≤ i
    · rw [if_pos hji, if_pos (by omega)]
    · rw [if_neg hji]
      by_cases hh : i = j
      · subst hh; rw [wr_s, if_pos (Nat.le_refl _), Nat.add_assoc]
      · rw [wr_j hh, if_neg (by omega)]
theorem lays_e {e h : Nat} {J : Mem} (h30 : e < 2 ^ 30) (k : kept e h) (h5 : J 307 5 = nI e) (h6 : J 307 6 = nI (min e 24)) : ∃ J', fX8_laysValues (nI h) J = some J' ∧ (∀ k i, k ≠ 315 → J' k i = J k i) ∧ (∀ i, i < 10 → J' 315 i = J 307 (hp e h + 8 + i)) := by
  obtain ⟨J', a1, a2, a3⟩ := lays_L h30 k 10 0 zF J rfl (zF_g (by omega)) h5 h6
  refine ⟨J', ?_, a2, fun i hi => by rw [a3 i hi, if_pos (Nat.zero_le _)]⟩
  unfold fX8_laysValues
  rw [show fX8_laysValues_L2 (nI h) zF 0 J = _ from a1]
  rfl
