/-! THE TALLY OF THE CLASS -/
def tv (s : Int32) (V : Nat → Int32) (j : Nat) : Int32 := if bt s j then V j else 0
theorem cnt_st {k2 k3 N st n j : Nat} {s tol : Int32} {V W : Nat → Int32} {I : Mem} (hk2 : k2 ≠ 52 ∧ k2 ≠ 53 ∧ k2 ≠ 54) (hk3 : k3 ≠ 52 ∧ k3 ≠ 53 ∧ k3 ≠ 54) (l2 : zb_ln k2 = 10) (l3 : zb_ln k3 = N) (hN : N < 2 ^ 20) (hst : st + 10 ≤ N) (hj : j < 10)
    (hV : ∀ i, i < 10 → bt s i = true → I k2 i = V i) (hW : ∀ i, i < 10 → bt s i = true → I k3 (st + i) = W i) :
    fX6_count_L8 k2 k3 s (nI st) tol (n + 1) (nI j) I = fX6_count_L8 k2 k3 s (nI st) tol n (nI (j + 1)) (wr (wr (wr I 53 j (tv s V j)) 54 j (tv s W j)) 52 5 (I 52 5 + tv s V j)) := by
  rw [fX6_count_L8, L10, if_neg (by rw [nI_leP (by omega) (by omega)]; omega), has7 (by omega), ob_s, l2, l3, ofN, ofN, nI_add]
  have r1 : ∀ v w : Int32, wr (wr I 53 j v) 54 j w 53 j = v := fun v w => by rw [wr_k (by decide), wr_s]
  have r2 : ∀ v w : Int32, wr (wr I 53 j v) 54 j w 52 5 = I 52 5 := fun v w => by rw [wr_k (by decide), wr_k (by decide)]
  unfold tv
  cases hs : bt s j
  · simp (disch := omega) only [ob_s, ob2_some, ob3_some, ob4_some, pl2_mk, pl3_mk, pl4_mk, plet_d, reduceIte, ite_some, zbo_b, zbo_0, zbo_1, ite_b2i, ite_b2i1, b2i_t, b2i_f, Nat.succ_ne_zero, Nat.one_ne_zero, if_true, if_false, Bool.false_eq_true, wr_s, ite_self, plet_d, ast_n, ald_n, nI_add, nI_1, wr_s, r1, r2]
  · have e3 : ∀ v, wr I 53 j v k3 (st + j) = W j := fun v => by rw [wr_k (by omega), hW j hj hs]
    simp +decide (disch := omega) only [ob_s, ob2_some, ob3_some, ob4_some, pl2_mk, pl3_mk, pl4_mk, plet_d, reduceIte, ite_some, zbo_b, zbo_0, zbo_1, ite_b2i, ite_b2i1, b2i_t, b2i_f, Nat.succ_ne_zero, Nat.one_ne_zero, if_true, if_false, Bool.false_eq_true, wr_s, ite_self, plet_d, nI_leP, nI_lt0, show ¬ 10 ≤ j by omega, show ¬ N ≤ st + j by omega, ast_n, ald_n, nI_1, wr_s, r1, r2, hV j hj hs, e3]
theorem cnt_L {k2 k3 N st : Nat} {s tol : Int32} {V W : Nat → Int32} (hk2 : k2 ≠ 52 ∧ k2 ≠ 53 ∧ k2 ≠ 54) (hk3 : k3 ≠ 52 ∧ k3 ≠ 53 ∧ k3 ≠ 54) (l2 : zb_ln k2 = 10) (l3 : zb_ln k3 = N) (hN : N < 2 ^ 20) (hst : st + 10 ≤ N) :
    ∀ (d j n : Nat) (I : Mem), j + d = 10 → d < n → (∀ i, i < 10 → bt s i = true → I k2 i = V i) → (∀ i, i < 10 → bt s i = true → I k3 (st + i) = W i) →
    ∃ I', fX6_count_L8 k2 k3 s (nI st) tol n (nI j) I = some I' ∧ (∀ k i, ¬ (k = 52 ∨ k = 53 ∨ k = 54) → I' k i = I k i) ∧ (∀ i, i < 10 → I' 53 i = if j ≤ i then tv s V i else I 53 i) ∧ (∀ i, i < 10 → I' 54 i = if j ≤ i then tv s W i else I 54 i) ∧ I' 52 5 = vsum V (bt s) j d (I 52 5) := by
  intro d
  induction d with
  | zero =>
    intro j n I hj hn hV hW
    obtain ⟨n, rfl⟩ := fuel hn
    refine ⟨I, ?_, fun _ _ _ => rfl, fun i hi => by rw [if_neg (by omega)], fun i hi => by rw [if_neg (by omega)], rfl⟩
    rw [fX6_count_L8, L10, if_pos (by rw [nI_leP (by omega) (by omega)]; omega)]
  | succ d ih =>
    intro j n I hj hn hV hW
    obtain ⟨n, rfl⟩ := fuel hn
    rw [cnt_st hk2 hk3 l2 l3 hN hst (by omega) hV hW]
    have f1 : ∀ k i, ¬ (k = 52 ∨ k = 53 ∨ k = 54) → (wr (wr (wr I 53 j (tv s V j)) 54 j (tv s W j)) 52 5 (I 52 5 + tv s V j)) k i = I k i := fun k i h => by
      rw [wr_k (by omega), wr_k (by omega), wr_k (by omega)]
    obtain ⟨I', h1, h2, h3, h4, h5⟩ := ih (j + 1) n _ (by omega) (by omega) (fun i hi hb => (f1 k2 i (by omega)).trans (hV i hi hb)) (fun i hi hb => (f1 k3 _ (by omega)).trans (hW i hi hb))
    refine ⟨I', h1, fun k i h => (h2 k i h).trans (f1 k i h), fun i hi => ?_, fun i hi => ?_, ?_⟩
    · rw [h3 i hi]
      by_cases h : j + 1 ≤ i
      · rw [if_pos h, if_pos (by omega)]
      · rw [if_neg h, wr_k (by decide), wr_k (by decide)]
        by_cases h' : i = j
        · subst h'; rw [wr_s, if_pos (Nat.le_refl _)]
        · rw [wr_j h', if_neg (by omega)]
    · rw [h4 i hi]
      by_cases h : j + 1 ≤ i
      · rw [if_pos h, if_pos (by omega)]
      · rw [if_neg h, wr_k (by decide)]
        by_cases h' : i = j
        · subst h'; rw [wr_s, if_pos (Nat.le_refl _)]
        · rw [wr_j h', wr_k (by decide), if_neg (by omega)]
    · rw [h5, wr_s]
      show _ = vsum V (bt s) (j + 1) d (if bt s j then I 52 5 + V j else I 52 5)
      unfold tv
      cases bt s j
      · simp
      · rfl
theorem tv_in {s : Int32} {V : Nat → Int32} {j : Nat} (h : bt s j = true) : tv s V j = V j := by unfold tv; rw [if_pos h]
theorem tv_out {s : Int32} {V : Nat → Int32} {j : Nat} (h : bt s j = false) : tv s V j = 0 := by unfold tv; rw [h]; rfl
theorem mid_L16 {I : Mem} {s a1 : Int32} {V W : Nat → Int32} {j0 : Nat} (hj0 : j0 < 10) (hb : bt s j0 = true) (h53 : ∀ i, i < 10 → I 53 i = tv s V i) (h54 : ∀ i, i < 10 → I 54 i = tv s W i) : ∀ (d j n : Nat) (a : Int32), j + d = 10 → d < n → fX6_middle_L16 (nI j0) a1 n (nI j) a I = some (vsum V (fun j => bt s j && decide (¬ W j0 < W j)) j d a) := by
  intro d
  induction d with
  | zero =>
    intro j n a hj hn
    obtain ⟨n, rfl⟩ := fuel hn
    rw [fX6_middle_L16, L10, if_pos (by rw [nI_leP (by omega) (by omega)]; omega)]
    rfl
  | succ d ih =>
    intro j n a hj hn
    obtain ⟨n, rfl⟩ := fuel hn
    rw [fX6_middle_L16, L10, if_neg (by rw [nI_leP (by omega) (by omega)]; omega), ald_n (by omega) (by omega), ob_s, ald_n (by omega) (by omega), ob_s, ald_n (by omega) (by omega), ob_s, ite_some, ob_s, nI_1, ih (j + 1) n _ (by omega) (by omega), h53 j (by omega), h54 j (by omega), h54 j0 hj0, tv_in hb]
    show _ = some (vsum _ _ (j + 1) d (if (bt s j && decide (¬ W j0 < W j)) = true then a + V j else a))
    cases hs : bt s j
    · rw [tv_out hs, tv_out hs]
      simp
    · rw [tv_in hs, tv_in hs]
      by_cases h : W j0 < W j <;> simp [h]
theorem mid_L5 {I : Mem} {s : Int32} {V W : Nat → Int32} (hok : tOk 10 s V W) (h53 : ∀ i, i < 10 → I 53 i = tv s V i) (h54 : ∀ i, i < 10 → I 54 i = tv s W i) (h5 : I 52 5 = tAll 10 s V) : ∀ (d j n : Nat) (a : Int32), j + d = 10 → d < n → fX6_middle_L5 n (nI j) a I = some (itr (tMidf 10 s V W) j d a) := by
  intro d
  induction d with
  | zero =>
    intro j n a hj hn
    obtain ⟨n, rfl⟩ := fuel hn
    rw [fX6_middle_L5, L10, if_pos (by rw [nI_leP (by omega) (by omega)]; omega)]
    rfl
  | succ d ih =>
    intro j n a hj hn
    obtain ⟨n, rfl⟩ := fuel hn
    have hstep : fX6_middle_L5 (n + 1) (nI j) a I = fX6_middle_L5 n (nI (j + 1)) (tMidf 10 s V W j a) I := by
      rw [fX6_middle_L5, L10, if_neg (by rw [nI_leP (by omega) (by omega)]; omega)]
      obtain ⟨x, hx, hx2⟩ : ∃ x, fX6_middle_L16 (nI j) a zF 0 0 I = some x ∧ (bt s j = true → x = tUp 10 s V W (W j)) := by
        cases hs : bt s j
        · have tot : ∀ (d i n : Nat) (b : Int32), i + d = 10 → d < n → ∃ x, fX6_middle_L16 (nI j) a n (nI i) b I = some x := by
            intro d
            induction d with
            | zero =>
              intro i n b hi hn
              obtain ⟨n, rfl⟩ := fuel hn
              exact ⟨b, by rw [fX6_middle_L16, L10, if_pos (by rw [nI_leP (by omega) (by omega)]; omega)]⟩
            | succ d ihd =>
              intro i n b hi hn
              obtain ⟨n, rfl⟩ := fuel hn
              rw [fX6_middle_L16, L10, if_neg (by rw [nI_leP (by omega) (by omega)]; omega), ald_n (by omega) (by omega), ob_s, ald_n (by omega) (by omega), ob_s, ald_n (by omega) (by omega), ob_s, ite_some, ob_s, nI_1]
              exact ihd (i + 1) n _ (by omega) (by omega)
          obtain ⟨x, hx⟩ := tot 10 0 zF 0 rfl (zF_g (by omega))
          exact ⟨x, hx, fun h => by cases h⟩
        · exact ⟨_, mid_L16 (by omega) hs h53 h54 10 0 zF 0 rfl (zF_g (by omega)), fun _ => rfl⟩
      rw [hx, ob_s, ald_n (by omega) (by omega), ob_s, h53 j (by omega), ald_n (by omega) (by omega), h54 j (by omega), h5, nI_1]
      unfold tMidf
      cases hs : bt s j
      · rw [tv_out hs, if_pos (by decide)]
        rfl
      · have hb := (hok.2 j (by omega) hs).1
        unfold bd at hb
        have z : (0 : Int32).toInt = 0 := rfl
        rw [tv_in hs, tv_in hs, if_neg (by rw [Int32.le_iff_toInt_le]; omega), hx2 hs]
        simp (disch := omega) only [ob_s, ob2_some, ob3_some, ob4_some, pl2_mk, pl3_mk, pl4_mk, plet_d, reduceIte, ite_some, zbo_b, zbo_0, zbo_1, ite_b2i, ite_b2i1, b2i_t, b2i_f, Nat.succ_ne_zero, Nat.one_ne_zero, if_true, if_false, Bool.false_eq_true, wr_s, ite_self]
    rw [hstep]
    exact ih (j + 1) n _ (by omega) (by omega)
theorem wei_L {s tol m : Int32} {V W : Nat → Int32} (hok : tOk 10 s V W) (hm : bd (-1000000) 1000000 m) : ∀ (d j n : Nat) (a4 a3 : Int32) (I : Mem), j + d = 10 → d < n → (∀ i, i < 10 → I 53 i = tv s V i) → (∀ i, i < 10 → I 54 i = tv s W i) →
    ∃ I', fX6_weigh_L13 m tol n (nI j) a4 a3 I = some (vsum (fun j => V j * W j) (tIn s W tol m) j d a4, vsum V (tIn s W tol m) j d a3, I') ∧ (∀ k i, ¬ (k = 52 ∧ i = 0) → I' k i = I k i) ∧ I' 52 0 = bsl (tIn s W tol m) j d (I 52 0) := by
  intro d
  induction d with
  | zero =>
    intro j n a4 a3 I hj hn h53 h54
    obtain ⟨n, rfl⟩ := fuel hn
    exact ⟨I, by rw [fX6_weigh_L13, L10, if_pos (by rw [nI_leP (by omega) (by omega)]; omega)]; rfl, fun _ _ _ => rfl, rfl⟩
  | succ d ih =>
    intro j n a4 a3 I hj hn h53 h54
    obtain ⟨n, rfl⟩ := fuel hn
    have hstep : fX6_weigh_L13 m tol (n + 1) (nI j) a4 a3 I = fX6_weigh_L13 m tol n (nI (j + 1)) (if tIn s W tol m j then a4 + V j * W j else a4) (if tIn s W tol m j then a3 + V j else a3) (if tIn s W tol m j then wr I 52 0 (I 52 0 ||| bit1 j) else I) := by
      rw [fX6_weigh_L13, L10, if_neg (by rw [nI_leP (by omega) (by omega)]; omega), ald_n (by omega) (by omega), ob_s, h53 j (by omega), ald_n (by omega) (by omega), h54 j (by omega), nI_1]
      rw [ald_n (by omega) (by omega), ald_n (by omega) (by omega), wr_k (by decide), wr_k (by decide), h53 j (by omega), h54 j (by omega)]
      unfold tIn
      cases hs : bt s j
      · rw [tv_out hs, if_pos (by decide)]
        rfl
      · obtain ⟨hb, hw⟩ := hok.2 j (by omega) hs
        have e := iabs_off hw hm
        unfold bd at hb
        have z : (0 : Int32).toInt = 0 := rfl
        rw [tv_in hs, tv_in hs, if_neg (by rw [Int32.le_iff_toInt_le]; omega), ob_s, e]
        by_cases ho : tol < offI (W j) m
        · simp only [ho, if_true, not_true_eq_false, decide_false, Bool.and_false, Bool.false_eq_true, if_false]
          rfl
        · simp only [ho, if_false, not_false_eq_true, decide_true, Bool.and_true, if_true]
          rfl
    rw [hstep]
    cases hin : tIn s W tol m j
    · simp only [Bool.false_eq_true, if_false]
      obtain ⟨I', h1, h2, h3⟩ := ih (j + 1) n a4 a3 I (by omega) (by omega) h53 h54
      refine ⟨I', ?_, h2, ?_⟩
      · rw [h1]
        show _ = some (vsum _ _ (j + 1) d (if tIn s W tol m j = true then a4 + V j * W j else a4), vsum _ _ (j + 1) d (if tIn s W tol m j = true then a3 + V j else a3), I')
        rw [hin]
        rfl
      · rw [h3]
        show _ = bsl _ (j + 1) d (if tIn s W tol m j = true then I 52 0 ||| bit1 j else I 52 0)
        rw [hin]
        rfl
    · simp only [if_true]
      obtain ⟨I', h1, h2, h3⟩ := ih (j + 1) n (a4 + V j * W j) (a3 + V j) (wr I 52 0 (I 52 0 ||| bit1 j)) (by omega) (by omega) (fun i hi => by rw [wr_k (by decide), h53 i hi]) (fun i hi => by rw [wr_k (by decide), h54 i hi])
      refine ⟨I', ?_, fun k i h => ?_, ?_⟩
      · rw [h1]
        show _ = some (vsum _ _ (j + 1) d (if tIn s W tol m j = true then a4 + V j * W j else a4), vsum _ _ (j + 1) d (if tIn s W tol m j = true then a3 + V j else a3), I')
        rw [hin]
        rfl
      · rw [h2 k i h]
        simp only [wr, if_neg h]
      · rw [h3, wr_s]
        show _ = bsl _ (j + 1) d (if tIn s W tol m j = true then I 52 0 ||| bit1 j else I 52 0)
        rw [hin]
        rfl
/-- sums, counts and sets over ten are those over c -/
theorem tcut {c : Nat} {s : Int32} (hc : c ≤ 10) (hs : ∀ i, c ≤ i → bt s i = false) {V W : Nat → Int32} {tol m : Int32} : tAll 10 s V = tAll c s V ∧ (∀ v, tUp 10 s V W v = tUp c s V W v) ∧ tSup 10 s W tol m = tSup c s W tol m ∧ tSpt 10 s V W tol m = tSpt c s V W tol m ∧ tSum 10 s V W tol m = tSum c s V W tol m := by
  refine ⟨?_, fun v => ?_, ?_, ?_, ?_⟩
  · unfold tAll vsum; exact itr_cut hc _ fun i a h1 _ => by simp [hs i h1]
  · unfold tUp vsum; exact itr_cut hc _ fun i a h1 _ => by simp [hs i h1]
  · unfold tSup bsl; exact itr_cut hc _ fun i a h1 _ => by simp [tIn, hs i h1]
  · unfold tSpt vsum; exact itr_cut hc _ fun i a h1 _ => by simp [tIn, hs i h1]
  · unfold tSum vsum; exact itr_cut hc _ fun i a h1 _ => by simp [tIn, hs i h1]
theorem tcutM {c : Nat} {s m0 : Int32} (hc : c ≤ 10) (hs : ∀ i, c ≤ i → bt s i = false) {V W : Nat → Int32} : tMid 10 s V W m0 = tMid c s V W m0 := by
  unfold tMid
  rw [itr_cut hc]
  · apply itr_congr
    intro i a _ _
    unfold tMidf
    rw [(tcut hc hs (tol := 0) (m := 0) (V := V) (W := W)).1, (tcut hc hs (tol := 0) (m := 0) (V := V) (W := W)).2.1]
  · intro i a h1 _
    unfold tMidf
    rw [hs i h1]
    rfl
theorem spt_pos {c : Nat} {s tol m : Int32} {V W : Nat → Int32} (hok : tOk c s V W) (h : tHas c s V W tol m = true) : 0 < (tSpt c s V W tol m).toInt := by
  have a1 := vsum_bd (V := V) (p := bt s) (lo := 0) (hi := 9) (by omega) (by omega) (by omega) (by omega) c hok.1 (fun j hj hb => by have := (hok.2 j hj hb).1; unfold bd at *; omega)
  have a2 := vsum_bd (V := V) (p := tIn s W tol m) (lo := 0) (hi := 9) (by omega) (by omega) (by omega) (by omega) c hok.1 (fun j hj hb => by have := (hok.2 j hj (tIn_bt hb)).1; unfold bd at *; omega)
  have hc := hok.1
  unfold tHas tSpt tAll at h
  unfold tSpt
  simp only [decide_eq_true_eq] at h
  rw [Int32.le_iff_toInt_le] at h
  have two : (2 : Int32).toInt = 2 := rfl
  have e : (2 * vsum V (tIn s W tol m) 0 c 0 : Int32).toInt = 2 * (vsum V (tIn s W tol m) 0 c 0).toInt := by
    rw [toInt_mul (by rw [two]; omega) (by rw [two]; omega), two]
  rw [e] at h
  omega
theorem spt_np {c : Nat} {s tol m : Int32} {V W : Nat → Int32} (hok : tOk c s V W) : (if tSpt c s V W tol m ≤ 0 then (0 : Int32) else if 2 * tSpt c s V W tol m ≤ tAll c s V then 0 else 1) = b2i (tHas c s V W tol m) := by
  cases h : tHas c s V W tol m
  · unfold tHas at h
    simp only [decide_eq_false_iff_not, Decidable.not_not] at h
    rw [if_pos h]
    split <;> rfl
  · have h1 := spt_pos hok h
    have z : (0 : Int32).toInt = 0 := rfl
    unfold tHas at h
    simp only [decide_eq_true_eq] at h
    rw [if_neg (by rw [Int32.le_iff_toInt_le]; omega), if_neg h]
    rfl
/-- what the class's tally tells of voters s whose votes are V and values W -/
theorem cnt_e {k2 k3 N st c : Nat} {s tol : Int32} {V W : Nat → Int32} {I : Mem} (hk2 : k2 ≠ 52 ∧ k2 ≠ 53 ∧ k2 ≠ 54) (hk3 : k3 ≠ 52 ∧ k3 ≠ 53 ∧ k3 ≠ 54) (l2 : zb_ln k2 = 10) (l3 : zb_ln k3 = N) (hN : N < 2 ^ 20) (hst : st + 10 ≤ N)
    (hs : ∀ i, c ≤ i → bt s i = false) (hV : ∀ i, i < c → I k2 i = V i) (hW : ∀ i, i < c → bt s i = true → I k3 (st + i) = W i) (hok : tOk c s V W) (ht : bd 0 999 tol) :
    ∃ I', fX6_count k2 k3 s (nI st) tol I = some I' ∧ (∀ k i, ¬ (k = 52 ∨ k = 53 ∨ k = 54) → I' k i = I k i) ∧ I' 52 0 = tSup c s W tol (tMid c s V W 100000) ∧ I' 52 1 = b2i (tHas c s V W tol (tMid c s V W 100000)) ∧ I' 52 2 = tLev c s V W tol (tMid c s V W 100000) := by
  have hc := hok.1
  have bc : ∀ i, bt s i = true → i < c := fun i h => by
    by_cases h2 : i < c
    · exact h2
    · rw [hs i (by omega)] at h
      cases h
  have hok10 : tOk 10 s V W := ⟨Nat.le_refl _, fun j _ hb => hok.2 j (bc j hb) hb⟩
  obtain ⟨I1, a1, a2, a3, a4, a5⟩ := cnt_L (tol := tol) hk2 hk3 l2 l3 hN hst 10 0 zF (wr I 52 5 0) rfl (zF_g (by omega)) (V := V) (W := W) (s := s) (fun i _ hb => by rw [wr_k (by omega)]; exact hV i (bc i hb)) (fun i _ hb => by rw [wr_k (by omega)]; exact hW i (bc i hb) hb)
  have h53 : ∀ i, i < 10 → I1 53 i = tv s V i := fun i hi => by rw [a3 i hi, if_pos (Nat.zero_le _)]
  have h54 : ∀ i, i < 10 → I1 54 i = tv s W i := fun i hi => by rw [a4 i hi, if_pos (Nat.zero_le _)]
  have h5 : I1 52 5 = tAll 10 s V := by rw [a5, wr_s]; rfl
  have hmid : fX6_middle I1 = some (tMid 10 s V W 1000000) := by
    unfold fX6_middle
    rw [show fX6_middle_L5 zF 0 1000000 I1 = _ from mid_L5 hok10 h53 h54 h5 10 0 zF 1000000 rfl (zF_g (by omega))]
    rfl
  have hm : bd (-1000000) 1000000 (tMid 10 s V W 1000000) := by
    rcases mid_two hok10 with ⟨e, hb⟩ | ⟨e1, e2⟩
    · rw [e]; unfold bd at *; omega
    · rw [e1]; unfold bd; decide
  obtain ⟨I2, b1, b2, b3⟩ := wei_L (tol := tol) hok10 hm 10 0 zF 0 0 (wr I1 52 0 0) rfl (zF_g (by omega)) (fun i hi => by rw [wr_k (by decide)]; exact h53 i hi) (fun i hi => by rw [wr_k (by decide)]; exact h54 i hi)
  have tin : ∀ j, j < 10 → tIn s W tol (tMid 10 s V W 1000000) j = tIn s W tol (tMid c s V W 100000) j := fun j hj => by
    rw [tIn_two hok10 ht hj, tcutM hc hs]
  have s1 : vsum (fun j => V j * W j) (tIn s W tol (tMid 10 s V W 1000000)) 0 10 0 = tSum c s V W tol (tMid c s V W 100000) := by
    rw [vsum_cong (p' := tIn s W tol (tMid c s V W 100000)) (V' := fun j => V j * W j) (fun i _ hi => ⟨rfl, tin i (by omega)⟩)]
    exact (tcut hc hs).2.2.2.2
  have s2 : vsum V (tIn s W tol (tMid 10 s V W 1000000)) 0 10 0 = tSpt c s V W tol (tMid c s V W 100000) := by
    rw [vsum_cong (p' := tIn s W tol (tMid c s V W 100000)) (V' := V) (fun i _ hi => ⟨rfl, tin i (by omega)⟩)]
    exact (tcut hc hs).2.2.2.1
  have s3 : bsl (tIn s W tol (tMid 10 s V W 1000000)) 0 10 0 = tSup c s W tol (tMid c s V W 100000) := by
    rw [bsl_cong (q := tIn s W tol (tMid c s V W 100000)) (fun i hi => tin i hi)]
    exact (tcut (V := V) hc hs).2.2.1
  have s4 : tAll 10 s V = tAll c s V := (tcut (W := W) (tol := tol) (m := 0) hc hs).1
  have i5 : I2 52 5 = tAll c s V := by rw [b2 52 5 (by omega), wr_j (by decide), h5, s4]
  rw [s1, s2] at b1
  rw [wr_s, s3] at b3
  refine ⟨wr (wr I2 52 1 (b2i (tHas c s V W tol (tMid c s V W 100000)))) 52 2 (tLev c s V W tol (tMid c s V W 100000)), ?_, fun k i h => ?_, ?_, ?_, ?_⟩
  · unfold fX6_count
    rw [show fX6_count_L8 k2 k3 s (nI st) tol zF 0 (wr I 52 5 0) = _ from a1, ob_s, hmid, ob_s]
    unfold fX6_weigh
    rw [show fX6_weigh_L13 (tMid 10 s V W 1000000) tol zF 0 0 0 (wr I1 52 0 0) = _ from b1, ob3_some, plet_d, i5, spt_np hok, zput_b, ob_s, wr_s]
    unfold tLev
    cases hh : tHas c s V W tol (tMid c s V W 100000)
    · rfl
    · rw [fdiv_e (spt_pos hok hh)]
      rfl
  · rw [wr_k (by omega), wr_k (by omega), b2 k i (by omega), wr_k (by omega), a2 k i h, wr_k (by omega)]
  · rw [wr_j (by decide), wr_j (by decide), b3]
  · rw [wr_j (by decide), wr_s]
  · rw [wr_s]
