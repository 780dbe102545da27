/-! LOOPS OVER BUOYS, ROPES AND HOURS THAT CHANGE NOTHING -/
theorem itr_add {A : Type} {f : Nat → A → A} : ∀ (d1 d2 j : Nat) (a : A), itr f j (d1 + d2) a = itr f (j + d1) d2 (itr f j d1 a)
  | 0, d2, j, a => by rw [Nat.zero_add]; rfl
  | d1 + 1, d2, j, a => by
    rw [show d1 + 1 + d2 = (d1 + d2) + 1 by omega]
    show itr f (j + 1) (d1 + d2) (f j a) = itr f (j + (d1 + 1)) d2 (itr f (j + 1) d1 (f j a))
    rw [itr_add d1 d2 (j + 1) (f j a), show j + 1 + d1 = j + (d1 + 1) by omega]
theorem itr_id {A : Type} {f : Nat → A → A} : ∀ (d j : Nat) (a : A), (∀ i a, j ≤ i → i < j + d → f i a = a) → itr f j d a = a
  | 0, _, _, _ => rfl
  | d + 1, j, a, h => by
    show itr f (j + 1) d (f j a) = a
    rw [h j a (Nat.le_refl _) (by omega)]
    exact itr_id d (j + 1) a fun i a h1 h2 => h i a (by omega) (by omega)
/-- ten rounds of which those from c on do nothing -/
theorem itr_cut {A : Type} {f : Nat → A → A} {c : Nat} (hc : c ≤ 10) (a : A) (h : ∀ i a, c ≤ i → i < 10 → f i a = a) : itr f 0 10 a = itr f 0 c a := by
  rw [show 10 = c + (10 - c) by omega, itr_add, Nat.zero_add]
  exact itr_id _ _ _ fun i a h1 h2 => h i a h1 (by omega)
theorem pc_bsl {p : Nat → Bool} {c : Nat} (hc : c ≤ 10) : pc10 (bsl p 0 c 0) = itr (fun j a => a + b2i (p j)) 0 c 0 := by
  unfold pc10
  rw [itr_cut hc]
  · apply itr_congr
    intro i a _ h
    rw [has_bsl (by omega) (by omega)]
  · intro i a h1 h2
    rw [b_bsl (by omega) c 0 0 (by omega), b_0]
    simp [show ¬ i < c by omega, b2i]
theorem bsl_hi {p : Nat → Bool} {c i : Nat} (hc : c ≤ 32) (h : c ≤ i) : bt (bsl p 0 c 0) i = false := by
  by_cases h32 : i < 32
  · rw [b_bsl h32 c 0 0 (by omega), b_0]
    simp [show ¬ i < c by omega]
  · exact b_big (by omega)
theorem memb_L {I : Mem} {b c : Nat} {t : Int32} (hc : I (b + 1) 0 = nI c) (h10 : c ≤ 10) : ∀ (d j n : Nat) (a : Int32), j + d = c → d < n → fX0_membersIn_L4 b t n (nI j) a I = some (bsl (fun j => decide (I (b + 6) j = t)) j d a) := by
  intro d
  induction d with
  | zero =>
    intro j n a hj hn
    obtain ⟨n, rfl⟩ := fuel hn
    rw [fX0_membersIn_L4, hc, if_pos (by rw [nI_leP (by omega) (by omega)]; omega)]
    rfl
  | succ d ih =>
    intro j n a hj hn
    obtain ⟨n, rfl⟩ := fuel hn
    rw [fX0_membersIn_L4, hc, if_neg (by rw [nI_leP (by omega) (by omega)]; omega), ald_n (by omega) (by omega), ob_s, plet_d, nI_1]
    rw [ih (j + 1) n _ (by omega) (by omega)]
    show _ = some (bsl _ (j + 1) d (if decide (I (b + 6) j = t) then a ||| bit1 j else a))
    by_cases h : I (b + 6) j = t <;> simp [h, bit1]
theorem memb_e {I : Mem} {b c : Nat} {t : Int32} (hc : I (b + 1) 0 = nI c) (h10 : c ≤ 10) : fX0_membersIn b t I = some (bsl (fun j => decide (I (b + 6) j = t)) 0 c 0) := by
  unfold fX0_membersIn
  rw [show fX0_membersIn_L4 b t zF 0 0 I = _ from memb_L hc h10 c 0 zF 0 (by omega) (zF_g (by omega))]
  rfl
theorem inSt_L {J : Mem} {c : Nat} {t : Int32} (hc : J 307 0 = nI c) (h10 : c ≤ 10) : ∀ (d j n : Nat) (a : Int32), j + d = c → d < n → fX8_inState_L4 t n (nI j) a J = some (itr (fun j a => a + b2i (decide (J 307 (52 + j) = t))) j d a) := by
  intro d
  induction d with
  | zero =>
    intro j n a hj hn
    obtain ⟨n, rfl⟩ := fuel hn
    rw [fX8_inState_L4, ald_0 (by omega) (by omega), hc, ob_s, if_pos (by rw [nI_leP (by omega) (by omega)]; omega)]
    rfl
  | succ d ih =>
    intro j n a hj hn
    obtain ⟨n, rfl⟩ := fuel hn
    rw [fX8_inState_L4, ald_0 (by omega) (by omega), hc, ob_s, if_neg (by rw [nI_leP (by omega) (by omega)]; omega), L52, nI_add, ald_n (by omega) (by omega), ob_s, plet_d, nI_1]
    rw [ih (j + 1) n _ (by omega) (by omega)]
    show _ = some (itr _ (j + 1) d (a + b2i (decide (J 307 (52 + j) = t))))
    by_cases h : J 307 (52 + j) = t <;> simp [h, b2i]
theorem inSt_e {J : Mem} {c : Nat} {t : Int32} (hc : J 307 0 = nI c) (h10 : c ≤ 10) : fX8_inState t J = some (itr (fun j a => a + b2i (decide (J 307 (52 + j) = t))) 0 c 0) := by
  unfold fX8_inState
  rw [show fX8_inState_L4 t zF 0 0 J = _ from inSt_L hc h10 c 0 zF 0 (by omega) (zF_g (by omega))]
  rfl
theorem brok_L {J : Mem} {c : Nat} (hc : J 307 0 = nI c) (h2 : 1 ≤ c) (h10 : c ≤ 10) : ∀ (d j n : Nat) (a : Int32), j + d = c - 1 → d < n → fX8_brokenSet_L4 n (nI j) a J = some (bsl (broB (J 307)) j d a) := by
  intro d
  induction d with
  | zero =>
    intro j n a hj hn
    obtain ⟨n, rfl⟩ := fuel hn
    rw [fX8_brokenSet_L4, ald_0 (by omega) (by omega), hc, ob_s, nI_1, if_pos (by rw [nI_leP (by omega) (by omega)]; omega)]
    rfl
  | succ d ih =>
    intro j n a hj hn
    obtain ⟨n, rfl⟩ := fuel hn
    rw [fX8_brokenSet_L4, ald_0 (by omega) (by omega), hc, ob_s, nI_1, if_neg (by rw [nI_leP (by omega) (by omega)]; omega), L132, nI_add, ald_n (by omega) (by omega), ob_s, plet_d]
    rw [ih (j + 1) n _ (by omega) (by omega)]
    show _ = some (bsl _ (j + 1) d (if broB (J 307) j then a ||| bit1 j else a))
    unfold broB
    by_cases h : J 307 (132 + j) = 1
    · simp [h, bit1]
    · simp [h]
theorem brok_e {J : Mem} {c : Nat} (hc : J 307 0 = nI c) (h2 : 1 ≤ c) (h10 : c ≤ 10) : fX8_brokenSet J = some (bsl (broB (J 307)) 0 (c - 1) 0) := by
  unfold fX8_brokenSet
  rw [show fX8_brokenSet_L4 zF 0 0 J = _ from brok_L hc h2 h10 (c - 1) 0 zF 0 (by omega) (zF_g (by omega))]
  rfl
theorem hwl_L {I : Mem} {e : Nat} (he : I 1 7 = nI e) (h30 : e < 2 ^ 30) : ∀ (d j n : Nat) (a : Int32), j + d = e → d < n → fX7_hoursWithLevel_L10 n (nI j) a I = some (itr (fun h a => a + I 18 (h % 24)) j d a) := by
  intro d
  induction d with
  | zero =>
    intro j n a hj hn
    obtain ⟨n, rfl⟩ := fuel hn
    rw [fX7_hoursWithLevel_L10, he, if_pos (by rw [nI_leP (by omega) (by omega)]; omega)]
    rfl
  | succ d ih =>
    intro j n a hj hn
    obtain ⟨n, rfl⟩ := fuel hn
    have hr : j % 24 < 24 := Nat.mod_lt _ (by omega)
    rw [fX7_hoursWithLevel_L10, he, if_neg (by rw [nI_leP (by omega) (by omega)]; omega), row_e (by omega), ob_s, ald_n hr (by omega), ob_s, nI_1]
    exact ih (j + 1) n _ (by omega) (by omega)
theorem hwl_e {I : Mem} {e : Nat} (he : I 1 7 = nI e) (h30 : e < 2 ^ 30) : fX7_hoursWithLevel I = some (itr (fun h a => a + I 18 (h % 24)) (e - 24) (min e 24) 0) := by
  unfold fX7_hoursWithLevel
  rw [fk_e he h30, ob_s, hwl_L he h30 (min e 24) (e - 24) zF 0 (by omega) (zF_g (by omega))]
  rfl
theorem lvd_L {J : Mem} {e : Nat} (h5 : J 307 5 = nI e) (h6 : J 307 6 = nI (min e 24)) (h30 : e < 2 ^ 30) : ∀ (d j n : Nat) (a : Int32), e ≤ j + 24 → j + d = e → d < n → fX8_levelled_L7 n (nI j) a J = some (itr (fun h a => a + J 307 (hp e h + 2)) j d a) := by
  intro d
  induction d with
  | zero =>
    intro j n a h24 hj hn
    obtain ⟨n, rfl⟩ := fuel hn
    rw [fX8_levelled_L7, L5, ald_n (by omega) (by omega), h5, ob_s, if_pos (by rw [nI_leP (by omega) (by omega)]; omega)]
    rfl
  | succ d ih =>
    intro j n a h24 hj hn
    obtain ⟨n, rfl⟩ := fuel hn
    rw [fX8_levelled_L7, L5, ald_n (by omega) (by omega), h5, ob_s, if_neg (by rw [nI_leP (by omega) (by omega)]; omega), L2, of_e h5 h6 h30 (show kept e j by unfold kept; omega) (by omega), ob_s, nI_1]
    exact ih (j + 1) n _ (by omega) (by omega) (by omega)
theorem lvd_e {J : Mem} {e : Nat} (h5 : J 307 5 = nI e) (h6 : J 307 6 = nI (min e 24)) (h30 : e < 2 ^ 30) : fX8_levelled J = some (itr (fun h a => a + J 307 (hp e h + 2)) (e - 24) (min e 24) 0) := by
  unfold fX8_levelled
  rw [fh_e h5 h6 h30, ob_s, lvd_L h5 h6 h30 (min e 24) (e - 24) zF 0 (by omega) (by omega) (zF_g (by omega))]
  rfl
/-- a sum of votes of a set -/
def vsum (V : Nat → Int32) (p : Nat → Bool) : Nat → Nat → Int32 → Int32 := itr (fun j a => if p j then a + V j else a)
theorem vsum_cong {V V' : Nat → Int32} {p p' : Nat → Bool} {d j : Nat} {a : Int32} (h : ∀ i, j ≤ i → i < j + d → V i = V' i ∧ p i = p' i) : vsum V p j d a = vsum V' p' j d a := by
  unfold vsum
  apply itr_congr
  intro i a h1 h2
  obtain ⟨h3, h4⟩ := h i h1 h2
  rw [h3, h4]
theorem vof_L {I : Mem} {b c : Nat} {s : Int32} (hc : I (b + 1) 0 = nI c) (h10 : c ≤ 10) : ∀ (d j n : Nat) (a : Int32), j + d = c → d < n → fX0_votesOf_L4 b s n (nI j) a I = some (vsum (I (b + 3)) (bt s) j d a) := by
  intro d
  induction d with
  | zero =>
    intro j n a hj hn
    obtain ⟨n, rfl⟩ := fuel hn
    rw [fX0_votesOf_L4, hc, if_pos (by rw [nI_leP (by omega) (by omega)]; omega)]
    rfl
  | succ d ih =>
    intro j n a hj hn
    obtain ⟨n, rfl⟩ := fuel hn
    rw [fX0_votesOf_L4, hc, if_neg (by rw [nI_leP (by omega) (by omega)]; omega), has7 (by omega), ob_s, ite_b2i, ald_n (by omega) (by omega), ob_s, ite_some, ob_s, nI_1]
    exact ih (j + 1) n _ (by omega) (by omega)
theorem vof_e {I : Mem} {b c : Nat} {s : Int32} (hc : I (b + 1) 0 = nI c) (h10 : c ≤ 10) : fX0_votesOf b s I = some (vsum (I (b + 3)) (bt s) 0 c 0) := by
  unfold fX0_votesOf
  rw [show fX0_votesOf_L4 b s zF 0 0 I = _ from vof_L hc h10 c 0 zF 0 (by omega) (zF_g (by omega))]
  rfl
theorem add_ite0 {p : Bool} {a x : Int32} : (a + if p = true then x else 0) = if p = true then a + x else a := by
  cases p
  · simp
  · rfl
theorem vot_L {J : Mem} {c : Nat} {s : Int32} (hc : J 307 0 = nI c) (h10 : c ≤ 10) : ∀ (d j n : Nat) (a : Int32), j + d = c → d < n → fX8_votes_L4 s n (nI j) a J = some (vsum (fun j => J 307 (22 + j)) (bt s) j d a) := by
  intro d
  induction d with
  | zero =>
    intro j n a hj hn
    obtain ⟨n, rfl⟩ := fuel hn
    rw [fX8_votes_L4, ald_0 (by omega) (by omega), hc, ob_s, if_pos (by rw [nI_leP (by omega) (by omega)]; omega)]
    rfl
  | succ d ih =>
    intro j n a hj hn
    obtain ⟨n, rfl⟩ := fuel hn
    rw [fX8_votes_L4, ald_0 (by omega) (by omega), hc, ob_s, if_neg (by rw [nI_leP (by omega) (by omega)]; omega), has8 (by omega), ob_s, ite_b2i, L22, nI_add, ald_n (by omega) (by omega), ob_s, ite_some, ob_s, nI_1, add_ite0]
    exact ih (j + 1) n _ (by omega) (by omega)
theorem vot_e {J : Mem} {c : Nat} {s : Int32} (hc : J 307 0 = nI c) (h10 : c ≤ 10) : fX8_votes s J = some (vsum (fun j => J 307 (22 + j)) (bt s) 0 c 0) := by
  unfold fX8_votes
  rw [show fX8_votes_L4 s zF 0 0 J = _ from vot_L hc h10 c 0 zF 0 (by omega) (zF_g (by omega))]
  rfl
theorem q_5 : eqP_5 Rel := by
  intro n I J hn hR p0
  obtain ⟨c, e, ⟨h2, h10, h30, -⟩, ⟨J0, J5, J6⟩, ⟨I0, I7⟩, hW⟩ := hR.facts hn
  have t0 : (wr J 306 0 0) 306 0 = 0 := wr_s
  have K0 : (wr J 306 0 0) 307 0 = nI c := w7.trans J0
  have K5 : (wr J 306 0 0) 307 5 = nI e := w7.trans J5
  have K6 : (wr J 306 0 0) 307 6 = nI (min e 24) := w7.trans J6
  have K7 : (wr J 306 0 0) 307 = J 307 := funext fun j => w7
  obtain ⟨u, p, hu, hp8, I3, I4, J8, -⟩ := hR.2.1
  unfold fX7_size fX8_size
  rcases inx (c := 17) (by omega) p0 with ⟨w, hw, rfl⟩ | hw
  · obtain ⟨-, q3, q4, q5, q6, q7, q8, q9, q10, q11, qbr, -⟩ := hW.2.1
    have q3 : I 1 3 = J 307 1 := q3
    have q4 : I 1 4 = J 307 2 := q4
    have q5 : I 1 5 = J 307 3 := q5
    have q6 : I 1 6 = J 307 4 := q6
    have q8 : I 1 8 = J 307 7 := q8
    have q9 : I 1 9 = J 307 8 := q9
    have q10 : I 1 10 = J 307 9 := q10
    have q11 : I 1 11 = J 307 10 := q11
    have qbr : I 12 0 = bsl (broB (J 307)) 0 (c - 1) 0 := qbr
    rw [within_i (nI_pos (by omega)) (by rw [show (16 : Int32) = nI 16 from rfl, nI_ltP (by omega) (by omega)]; omega)]
    suffices hs : ∃ r, fX7_size (nI w) I = some (0, r) ∧ fX8_size (nI w) J = some (r, wr J 306 0 0) by
      obtain ⟨r, a1, a2⟩ := hs
      refine ⟨0, r, r, wr J 306 0 0, a1, ?_, Rel.J0 hR 0, Or.inl ⟨rfl, wr_s, rfl⟩⟩
      rw [← a2]
      unfold fX8_size
      rw [within_i (nI_pos (by omega)) (by rw [show (16 : Int32) = nI 16 from rfl, nI_ltP (by omega) (by omega)]; omega)]
    unfold fX7_size fX8_size
    rw [within_i (nI_pos (by omega)) (by rw [show (16 : Int32) = nI 16 from rfl, nI_ltP (by omega) (by omega)]; omega)]
    rw [ob_s, plet_d, if_neg (show ¬ (1 : Int32) = 0 by decide), thr_0 t0, ob2_some, if_pos rfl]
    have tr : ∀ t : Int32, bsl (fun j => decide (I (1 + 6) j = t)) 0 c 0 = bsl (fun j => decide (J 307 (52 + j) = t)) 0 c 0 := fun t => bsl_cong fun i hi => by
      rw [(hW.2.2.1 i hi).2.2.2.2.1]
    have hcnt : ∀ t : Int32, (Option.bind (fX0_membersIn 1 t I) fun x => Option.bind (fJ6_bitCount_0f7a4 x) fun y => some ((0 : Nat), y)) = some (0, itr (fun j a => a + b2i (decide (J 307 (52 + j) = t))) 0 c 0) := fun t => by
      rw [memb_e (b := 1) I0 h10, ob_s, bc_e (fun i hi => bsl_hi (by omega) (by omega)), tr, pc_bsl h10]
      rfl
    have hw' : w = 0 ∨ w = 1 ∨ w = 2 ∨ w = 3 ∨ w = 4 ∨ w = 5 ∨ w = 6 ∨ w = 7 ∨ w = 8 ∨ w = 9 ∨ w = 10 ∨ w = 11 ∨ w = 12 ∨ w = 13 ∨ w = 14 ∨ w = 15 ∨ w = 16 := by omega
    rcases hw' with rfl | rfl | rfl | rfl | rfl | rfl | rfl | rfl | rfl | rfl | rfl | rfl | rfl | rfl | rfl | rfl | rfl
    · exact ⟨nI c, by rw [if_pos (show nI 0 = 0 by decide), I0], by rw [if_pos (show nI 0 = 0 by decide), ald_0 (by omega) (by omega), K0]; rfl⟩
    · exact ⟨nI e, by simp +decide (disch := omega) only [ob_s, ob2_some, ob3_some, ob4_some, pl2_mk, pl3_mk, pl4_mk, plet_d, reduceIte, ite_some, zbo_b, zbo_0, zbo_1, ite_b2i, ite_b2i1, b2i_t, b2i_f, Nat.succ_ne_zero, Nat.one_ne_zero, if_true, if_false, Bool.false_eq_true, wr_s, ite_self, I7], by simp +decide (disch := omega) only [ob_s, ob2_some, ob3_some, ob4_some, pl2_mk, pl3_mk, pl4_mk, plet_d, reduceIte, ite_some, zbo_b, zbo_0, zbo_1, ite_b2i, ite_b2i1, b2i_t, b2i_f, Nat.succ_ne_zero, Nat.one_ne_zero, if_true, if_false, Bool.false_eq_true, wr_s, ite_self, L5, ald_n, K5]⟩
    · refine ⟨nI (min e 24), ?_, by simp +decide (disch := omega) only [ob_s, ob2_some, ob3_some, ob4_some, pl2_mk, pl3_mk, pl4_mk, plet_d, reduceIte, ite_some, zbo_b, zbo_0, zbo_1, ite_b2i, ite_b2i1, b2i_t, b2i_f, Nat.succ_ne_zero, Nat.one_ne_zero, if_true, if_false, Bool.false_eq_true, wr_s, ite_self, L6, ald_n, K6]⟩
      simp +decide (disch := omega) only [ob_s, ob2_some, ob3_some, ob4_some, pl2_mk, pl3_mk, pl4_mk, plet_d, reduceIte, ite_some, zbo_b, zbo_0, zbo_1, ite_b2i, ite_b2i1, b2i_t, b2i_f, Nat.succ_ne_zero, Nat.one_ne_zero, if_true, if_false, Bool.false_eq_true, wr_s, ite_self, I7, fk_e (b := 1) I7 h30, nI_sub]
      rw [show e - (e - 24) = min e 24 by omega]
    · exact ⟨_, hcnt 0, by simp +decide (disch := omega) only [ob_s, ob2_some, ob3_some, ob4_some, pl2_mk, pl3_mk, pl4_mk, plet_d, reduceIte, ite_some, zbo_b, zbo_0, zbo_1, ite_b2i, ite_b2i1, b2i_t, b2i_f, Nat.succ_ne_zero, Nat.one_ne_zero, if_true, if_false, Bool.false_eq_true, wr_s, ite_self, inSt_e K0 h10, K7]⟩
    · exact ⟨_, hcnt 1, by simp +decide (disch := omega) only [ob_s, ob2_some, ob3_some, ob4_some, pl2_mk, pl3_mk, pl4_mk, plet_d, reduceIte, ite_some, zbo_b, zbo_0, zbo_1, ite_b2i, ite_b2i1, b2i_t, b2i_f, Nat.succ_ne_zero, Nat.one_ne_zero, if_true, if_false, Bool.false_eq_true, wr_s, ite_self, inSt_e K0 h10, K7]⟩
    · exact ⟨_, hcnt 2, by simp +decide (disch := omega) only [ob_s, ob2_some, ob3_some, ob4_some, pl2_mk, pl3_mk, pl4_mk, plet_d, reduceIte, ite_some, zbo_b, zbo_0, zbo_1, ite_b2i, ite_b2i1, b2i_t, b2i_f, Nat.succ_ne_zero, Nat.one_ne_zero, if_true, if_false, Bool.false_eq_true, wr_s, ite_self, inSt_e K0 h10, K7]⟩
    · refine ⟨pc10 (bsl (broB (J 307)) 0 (c - 1) 0), ?_, by simp +decide (disch := omega) only [ob_s, ob2_some, ob3_some, ob4_some, pl2_mk, pl3_mk, pl4_mk, plet_d, reduceIte, ite_some, zbo_b, zbo_0, zbo_1, ite_b2i, ite_b2i1, b2i_t, b2i_f, Nat.succ_ne_zero, Nat.one_ne_zero, if_true, if_false, Bool.false_eq_true, wr_s, ite_self, brok_e K0 (by omega) h10, K7, bits8]⟩
      simp +decide (disch := omega) only [ob_s, ob2_some, ob3_some, ob4_some, pl2_mk, pl3_mk, pl4_mk, plet_d, reduceIte, ite_some, zbo_b, zbo_0, zbo_1, ite_b2i, ite_b2i1, b2i_t, b2i_f, Nat.succ_ne_zero, Nat.one_ne_zero, if_true, if_false, Bool.false_eq_true, wr_s, ite_self, qbr]
      rw [bc_e (fun i hi => bsl_hi (by omega) (by omega))]
      rfl
    · exact ⟨J 307 4, by simp +decide (disch := omega) only [ob_s, ob2_some, ob3_some, ob4_some, pl2_mk, pl3_mk, pl4_mk, plet_d, reduceIte, ite_some, zbo_b, zbo_0, zbo_1, ite_b2i, ite_b2i1, b2i_t, b2i_f, Nat.succ_ne_zero, Nat.one_ne_zero, if_true, if_false, Bool.false_eq_true, wr_s, ite_self, q6], by simp +decide (disch := omega) only [ob_s, ob2_some, ob3_some, ob4_some, pl2_mk, pl3_mk, pl4_mk, plet_d, reduceIte, ite_some, zbo_b, zbo_0, zbo_1, ite_b2i, ite_b2i1, b2i_t, b2i_f, Nat.succ_ne_zero, Nat.one_ne_zero, if_true, if_false, Bool.false_eq_true, wr_s, ite_self, L4, ald_n, K7]⟩
    · exact ⟨J 307 1, by simp +decide (disch := omega) only [ob_s, ob2_some, ob3_some, ob4_some, pl2_mk, pl3_mk, pl4_mk, plet_d, reduceIte, ite_some, zbo_b, zbo_0, zbo_1, ite_b2i, ite_b2i1, b2i_t, b2i_f, Nat.succ_ne_zero, Nat.one_ne_zero, if_true, if_false, Bool.false_eq_true, wr_s, ite_self, q3], by simp +decide (disch := omega) only [ob_s, ob2_some, ob3_some, ob4_some, pl2_mk, pl3_mk, pl4_mk, plet_d, reduceIte, ite_some, zbo_b, zbo_0, zbo_1, ite_b2i, ite_b2i1, b2i_t, b2i_f, Nat.succ_ne_zero, Nat.one_ne_zero, if_true, if_false, Bool.false_eq_true, wr_s, ite_self, ald_1, K7]⟩
    · exact ⟨J 307 2, by simp +decide (disch := omega) only [ob_s, ob2_some, ob3_some, ob4_some, pl2_mk, pl3_mk, pl4_mk, plet_d, reduceIte, ite_some, zbo_b, zbo_0, zbo_1, ite_b2i, ite_b2i1, b2i_t, b2i_f, Nat.succ_ne_zero, Nat.one_ne_zero, if_true, if_false, Bool.false_eq_true, wr_s, ite_self, q4], by simp +decide (disch := omega) only [ob_s, ob2_some, ob3_some, ob4_some, pl2_mk, pl3_mk, pl4_mk, plet_d, reduceIte, ite_some, zbo_b, zbo_0, zbo_1, ite_b2i, ite_b2i1, b2i_t, b2i_f, Nat.succ_ne_zero, Nat.one_ne_zero, if_true, if_false, Bool.false_eq_true, wr_s, ite_self, L2, ald_n, K7]⟩
    · exact ⟨J 307 3, by simp +decide (disch := omega) only [ob_s, ob2_some, ob3_some, ob4_some, pl2_mk, pl3_mk, pl4_mk, plet_d, reduceIte, ite_some, zbo_b, zbo_0, zbo_1, ite_b2i, ite_b2i1, b2i_t, b2i_f, Nat.succ_ne_zero, Nat.one_ne_zero, if_true, if_false, Bool.false_eq_true, wr_s, ite_self, q5], by simp +decide (disch := omega) only [ob_s, ob2_some, ob3_some, ob4_some, pl2_mk, pl3_mk, pl4_mk, plet_d, reduceIte, ite_some, zbo_b, zbo_0, zbo_1, ite_b2i, ite_b2i1, b2i_t, b2i_f, Nat.succ_ne_zero, Nat.one_ne_zero, if_true, if_false, Bool.false_eq_true, wr_s, ite_self, L3, ald_n, K7]⟩
    · exact ⟨J 307 7, by simp +decide (disch := omega) only [ob_s, ob2_some, ob3_some, ob4_some, pl2_mk, pl3_mk, pl4_mk, plet_d, reduceIte, ite_some, zbo_b, zbo_0, zbo_1, ite_b2i, ite_b2i1, b2i_t, b2i_f, Nat.succ_ne_zero, Nat.one_ne_zero, if_true, if_false, Bool.false_eq_true, wr_s, ite_self, q8], by simp +decide (disch := omega) only [ob_s, ob2_some, ob3_some, ob4_some, pl2_mk, pl3_mk, pl4_mk, plet_d, reduceIte, ite_some, zbo_b, zbo_0, zbo_1, ite_b2i, ite_b2i1, b2i_t, b2i_f, Nat.succ_ne_zero, Nat.one_ne_zero, if_true, if_false, Bool.false_eq_true, wr_s, ite_self, L7, ald_n, K7]⟩
    · exact ⟨nI u, by simp +decide (disch := omega) only [ob_s, ob2_some, ob3_some, ob4_some, pl2_mk, pl3_mk, pl4_mk, plet_d, reduceIte, ite_some, zbo_b, zbo_0, zbo_1, ite_b2i, ite_b2i1, b2i_t, b2i_f, Nat.succ_ne_zero, Nat.one_ne_zero, if_true, if_false, Bool.false_eq_true, wr_s, ite_self, I3], by simp +decide (disch := omega) only [ob_s, ob2_some, ob3_some, ob4_some, pl2_mk, pl3_mk, pl4_mk, plet_d, reduceIte, ite_some, zbo_b, zbo_0, zbo_1, ite_b2i, ite_b2i1, b2i_t, b2i_f, Nat.succ_ne_zero, Nat.one_ne_zero, if_true, if_false, Bool.false_eq_true, wr_s, ite_self, wr_j (I := J) (k := 306) (j := 0) (j' := 8) (v := 0) (by decide), J8]⟩
    · refine ⟨itr (fun h a => a + J 307 (hp e h + 2)) (e - 24) (min e 24) 0, ?_, by simp +decide (disch := omega) only [ob_s, ob2_some, ob3_some, ob4_some, pl2_mk, pl3_mk, pl4_mk, plet_d, reduceIte, ite_some, zbo_b, zbo_0, zbo_1, ite_b2i, ite_b2i1, b2i_t, b2i_f, Nat.succ_ne_zero, Nat.one_ne_zero, if_true, if_false, Bool.false_eq_true, wr_s, ite_self, lvd_e K5 K6 h30, K7]⟩
      simp +decide (disch := omega) only [ob_s, ob2_some, ob3_some, ob4_some, pl2_mk, pl3_mk, pl4_mk, plet_d, reduceIte, ite_some, zbo_b, zbo_0, zbo_1, ite_b2i, ite_b2i1, b2i_t, b2i_f, Nat.succ_ne_zero, Nat.one_ne_zero, if_true, if_false, Bool.false_eq_true, wr_s, ite_self, hwl_e I7 h30]
      rw [itr_congr (g := fun h a => a + J 307 (hp e h + 2))]
      intro i a h1 h3
      rw [show I 18 (i % 24) = _ from (hW.2.2.2.2 i (by unfold kept; omega)).2.2.1]
    · exact ⟨J 307 8, by simp +decide (disch := omega) only [ob_s, ob2_some, ob3_some, ob4_some, pl2_mk, pl3_mk, pl4_mk, plet_d, reduceIte, ite_some, zbo_b, zbo_0, zbo_1, ite_b2i, ite_b2i1, b2i_t, b2i_f, Nat.succ_ne_zero, Nat.one_ne_zero, if_true, if_false, Bool.false_eq_true, wr_s, ite_self, q9], by simp +decide (disch := omega) only [ob_s, ob2_some, ob3_some, ob4_some, pl2_mk, pl3_mk, pl4_mk, plet_d, reduceIte, ite_some, zbo_b, zbo_0, zbo_1, ite_b2i, ite_b2i1, b2i_t, b2i_f, Nat.succ_ne_zero, Nat.one_ne_zero, if_true, if_false, Bool.false_eq_true, wr_s, ite_self, L8, ald_n, K7]⟩
    · exact ⟨J 307 9, by simp +decide (disch := omega) only [ob_s, ob2_some, ob3_some, ob4_some, pl2_mk, pl3_mk, pl4_mk, plet_d, reduceIte, ite_some, zbo_b, zbo_0, zbo_1, ite_b2i, ite_b2i1, b2i_t, b2i_f, Nat.succ_ne_zero, Nat.one_ne_zero, if_true, if_false, Bool.false_eq_true, wr_s, ite_self, q10], by simp +decide (disch := omega) only [ob_s, ob2_some, ob3_some, ob4_some, pl2_mk, pl3_mk, pl4_mk, plet_d, reduceIte, ite_some, zbo_b, zbo_0, zbo_1, ite_b2i, ite_b2i1, b2i_t, b2i_f, Nat.succ_ne_zero, Nat.one_ne_zero, if_true, if_false, Bool.false_eq_true, wr_s, ite_self, L9, ald_n, K7]⟩
    · exact ⟨J 307 10, by simp +decide (disch := omega) only [ob_s, ob2_some, ob3_some, ob4_some, pl2_mk, pl3_mk, pl4_mk, plet_d, reduceIte, ite_some, zbo_b, zbo_0, zbo_1, ite_b2i, ite_b2i1, b2i_t, b2i_f, Nat.succ_ne_zero, Nat.one_ne_zero, if_true, if_false, Bool.false_eq_true, wr_s, ite_self, q11], by simp +decide (disch := omega) only [ob_s, ob2_some, ob3_some, ob4_some, pl2_mk, pl3_mk, pl4_mk, plet_d, reduceIte, ite_some, zbo_b, zbo_0, zbo_1, ite_b2i, ite_b2i1, b2i_t, b2i_f, Nat.succ_ne_zero, Nat.one_ne_zero, if_true, if_false, Bool.false_eq_true, wr_s, ite_self, L10, ald_n, K7]⟩
  · refine ⟨2, 0, 0, wr (wr J 306 0 0) 306 0 1, ?_, ?_, wJ0 hR 1, Or.inr ⟨rfl, wr_s⟩⟩
    · have hk := @wouts p0 17 (by omega) hw
      rw [if_neg (show ¬ p0 = (0 : Int32) from hk (k := 0) (by omega)), if_neg (show ¬ p0 = (1 : Int32) from hk (k := 1) (by omega)), if_neg (show ¬ p0 = (2 : Int32) from hk (k := 2) (by omega)), if_neg (show ¬ p0 = (3 : Int32) from hk (k := 3) (by omega)), if_neg (show ¬ p0 = (4 : Int32) from hk (k := 4) (by omega)), if_neg (show ¬ p0 = (5 : Int32) from hk (k := 5) (by omega)), if_neg (show ¬ p0 = (6 : Int32) from hk (k := 6) (by omega)), if_neg (show ¬ p0 = (7 : Int32) from hk (k := 7) (by omega)), if_neg (show ¬ p0 = (8 : Int32) from hk (k := 8) (by omega)), if_neg (show ¬ p0 = (9 : Int32) from hk (k := 9) (by omega)), if_neg (show ¬ p0 = (10 : Int32) from hk (k := 10) (by omega)), if_neg (show ¬ p0 = (11 : Int32) from hk (k := 11) (by omega)), if_neg (show ¬ p0 = (12 : Int32) from hk (k := 12) (by omega)), if_neg (show ¬ p0 = (13 : Int32) from hk (k := 13) (by omega)), if_neg (show ¬ p0 = (14 : Int32) from hk (k := 14) (by omega)), if_neg (show ¬ p0 = (15 : Int32) from hk (k := 15) (by omega)), if_neg (show ¬ p0 = (16 : Int32) from hk (k := 16) (by omega))]
    · rw [within_o (show p0 < 0 ∨ (16 : Int32) < p0 from hw.imp id (fun h => lt_pred (b := 0) (c := 17) (by omega) (by omega) h))]
      rw [ob_s, plet_d, if_pos rfl, thr_11 t0, ob2_some, if_neg (show ¬ (1 : Int32) = 0 by decide)]
