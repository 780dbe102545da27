/-! SMALL METHODS OF BOTH SIDES -/
theorem L2 : (2 : Int32) = nI 2 := rfl
theorem L3 : (3 : Int32) = nI 3 := rfl
theorem L4 : (4 : Int32) = nI 4 := rfl
theorem L5 : (5 : Int32) = nI 5 := rfl
theorem L6 : (6 : Int32) = nI 6 := rfl
theorem L7 : (7 : Int32) = nI 7 := rfl
theorem L8 : (8 : Int32) = nI 8 := rfl
theorem L9 : (9 : Int32) = nI 9 := rfl
theorem L10 : (10 : Int32) = nI 10 := rfl
theorem L12 : (12 : Int32) = nI 12 := rfl
theorem L18 : (18 : Int32) = nI 18 := rfl
theorem L22 : (22 : Int32) = nI 22 := rfl
theorem L24 : (24 : Int32) = nI 24 := rfl
theorem L32 : (32 : Int32) = nI 32 := rfl
theorem L42 : (42 : Int32) = nI 42 := rfl
theorem L52 : (52 : Int32) = nI 52 := rfl
theorem L62 : (62 : Int32) = nI 62 := rfl
theorem L72 : (72 : Int32) = nI 72 := rfl
theorem L82 : (82 : Int32) = nI 82 := rfl
theorem L92 : (92 : Int32) = nI 92 := rfl
theorem L102 : (102 : Int32) = nI 102 := rfl
theorem L112 : (112 : Int32) = nI 112 := rfl
theorem L122 : (122 : Int32) = nI 122 := rfl
theorem L132 : (132 : Int32) = nI 132 := rfl
theorem L142 : (142 : Int32) = nI 142 := rfl
theorem L574 : (574 : Int32) = nI 574 := rfl
theorem n10 : ¬ (1 : Int32) = 0 := by decide
theorem n01 : ¬ (0 : Int32) = 1 := by decide
theorem e00 : (0 : Int32) = 0 := rfl
theorem e11 : (1 : Int32) = 1 := rfl
theorem ofN (n : Nat) : Int32.ofNat n = nI n := rfl
theorem ald_0 {I : Mem} {k n : Nat} (h : 0 < n) (hn : n < 2 ^ 31) : ald I k n 0 = some (I k 0) := ald_n (j := 0) h hn
theorem ald_1 {I : Mem} {k n : Nat} (h : 1 < n) (hn : n < 2 ^ 31) : ald I k n 1 = some (I k 1) := ald_n (j := 1) h hn
theorem ast_0 {I : Mem} {k n : Nat} {v : Int32} (h : 0 < n) (hn : n < 2 ^ 31) : ast I k n 0 v = some (wr I k 0 v) := ast_n (j := 0) h hn
theorem ast_1 {I : Mem} {k n : Nat} {v : Int32} (h : 1 < n) (hn : n < 2 ^ 31) : ast I k n 1 v = some (wr I k 1 v) := ast_n (j := 1) h hn
theorem inx {c : Nat} (hc : c < 2 ^ 31) (x : Int32) : (∃ j, j < c ∧ x = nI j) ∨ (x < 0 ∨ nI c ≤ x) := by
  by_cases h : x < 0
  · exact Or.inr (Or.inl h)
  · obtain ⟨j, hj, rfl⟩ := nI_of h
    by_cases h2 : j < c
    · exact Or.inl ⟨j, h2, rfl⟩
    · refine Or.inr (Or.inr ?_)
      rw [nI_leP (by omega) (by omega)]
      omega
theorem inb {lo hi : Nat} (hlo : lo < 2 ^ 31) (hhi : hi < 2 ^ 31) (x : Int32) : (∃ j, lo ≤ j ∧ j < hi ∧ x = nI j) ∨ (x < nI lo ∨ nI hi ≤ x) := by
  rcases inx (by omega) x (c := hi) with ⟨j, hj, rfl⟩ | h | h
  · by_cases h2 : lo ≤ j
    · exact Or.inl ⟨j, h2, hj, rfl⟩
    · refine Or.inr (Or.inl ?_)
      rw [nI_ltP (by omega) (by omega)]
      omega
  · refine Or.inr (Or.inl ?_)
    rw [Int32.lt_iff_toInt_lt] at h ⊢
    rw [nI_toInt hlo]
    have : (0 : Int32).toInt = 0 := rfl
    omega
  · exact Or.inr (Or.inr h)
theorem nlt_of_le {a b : Int32} (h : a ≤ b) : ¬ b < a := by
  rw [Int32.le_iff_toInt_le] at h
  rw [Int32.lt_iff_toInt_lt]
  omega
theorem nle_of_lt {a b : Int32} (h : a < b) : ¬ b ≤ a := by
  rw [Int32.lt_iff_toInt_lt] at h
  rw [Int32.le_iff_toInt_le]
  omega
theorem lt_of_nle {a b : Int32} (h : ¬ a ≤ b) : b < a := by
  rw [Int32.le_iff_toInt_le] at h
  rw [Int32.lt_iff_toInt_lt]
  omega
theorem le_of_nlt {a b : Int32} (h : ¬ a < b) : b ≤ a := by
  rw [Int32.lt_iff_toInt_lt] at h
  rw [Int32.le_iff_toInt_le]
  omega
theorem nlt_iff {a b : Int32} : (¬ a < b) = (b ≤ a) := propext ⟨le_of_nlt, nlt_of_le⟩
theorem nle_iff {a b : Int32} : (¬ a ≤ b) = (b < a) := propext ⟨lt_of_nle, nle_of_lt⟩
theorem lt_pred {a b : Int32} {c : Nat} (h : 1 ≤ c) (hc : c < 2 ^ 31) (hx : nI c ≤ a) : nI (c - 1) < a := by
  rw [Int32.le_iff_toInt_le, nI_toInt hc] at hx
  rw [Int32.lt_iff_toInt_lt, nI_toInt (by omega)]
  omega
theorem within_i {x lo hi : Int32} (h1 : ¬ x < lo) (h2 : ¬ hi < x) : fX8_within x lo hi = some 1 := by
  unfold fX8_within
  rw [if_neg h1, if_neg h2]
  rfl
theorem within_o {x lo hi : Int32} (h : x < lo ∨ hi < x) : fX8_within x lo hi = some 0 := by
  unfold fX8_within
  by_cases h1 : x < lo
  · rw [if_pos h1]; rfl
  · rw [if_neg h1, if_pos (h.resolve_left h1)]; rfl
theorem thr_0 {J : Mem} {k : Int32} (h0 : J 306 0 = 0) : fX8_throwsIf 0 k J = some (0, J) := by
  unfold fX8_throwsIf
  simp only [plet_d, h0, if_true]
  rfl
theorem thr_1 {J : Mem} {k : Nat} (h0 : J 306 0 = 0) (h1 : 0 < k) (hk : k < 2 ^ 31) : fX8_throwsIf 1 (nI k) J = some (1, wr J 306 0 (nI k)) := by
  unfold fX8_throwsIf
  simp only [plet_d, h0, if_true]
  rw [if_neg (show ¬ (1 : Int32) = 0 by decide), wr_s, if_neg (nI_nle h1 hk)]
  rfl
theorem thr_11 {J : Mem} (h0 : J 306 0 = 0) : fX8_throwsIf 1 1 J = some (1, wr J 306 0 1) := thr_1 (k := 1) h0 (by omega) (by omega)
theorem thr_12 {J : Mem} (h0 : J 306 0 = 0) : fX8_throwsIf 1 2 J = some (1, wr J 306 0 2) := thr_1 (k := 2) h0 (by omega) (by omega)
theorem noB_i {J : Mem} {c j : Nat} (h0 : J 306 0 = 0) (hc : J 307 0 = nI c) (h10 : c ≤ 10) (hj : j < c) : fX8_noBuoy (nI j) J = some (0, J) := by
  unfold fX8_noBuoy
  rw [ald_0 (by omega) (by omega), hc, ob_s, nI_sub1 (by omega) (by omega), within_i (nI_pos (by omega)) (by rw [nI_ltP (by omega) (by omega)]; omega)]
  simp (disch := omega) only [ob_s, ob2_some, ob3_some, ob4_some, pl2_mk, pl3_mk, pl4_mk, plet_d, reduceIte, ite_some, zbo_b, zbo_0, zbo_1, ite_b2i, ite_b2i1, b2i_t, b2i_f, Nat.succ_ne_zero, Nat.one_ne_zero, if_true, if_false, Bool.false_eq_true, wr_s, ite_self, thr_0 h0, show ¬ (1 : Int32) = 0 by decide]
theorem noB_o {J : Mem} {c : Nat} {x : Int32} (h0 : J 306 0 = 0) (hc : J 307 0 = nI c) (h2 : 1 ≤ c) (h10 : c ≤ 10) (hx : x < 0 ∨ nI c ≤ x) : fX8_noBuoy x J = some (1, wr J 306 0 1) := by
  unfold fX8_noBuoy
  rw [ald_0 (by omega) (by omega), hc, ob_s, nI_sub1 (by omega) (by omega), within_o (hx.imp id (lt_pred (b := 0) h2 (by omega)))]
  simp (disch := omega) only [ob_s, ob2_some, ob3_some, ob4_some, pl2_mk, pl3_mk, pl4_mk, plet_d, reduceIte, ite_some, zbo_b, zbo_0, zbo_1, ite_b2i, ite_b2i1, b2i_t, b2i_f, Nat.succ_ne_zero, Nat.one_ne_zero, if_true, if_false, Bool.false_eq_true, wr_s, ite_self, thr_11 h0]
theorem noR_i {J : Mem} {c j : Nat} (h0 : J 306 0 = 0) (hc : J 307 0 = nI c) (h10 : c ≤ 10) (hj : j + 1 < c) : fX8_noRope (nI j) J = some (0, J) := by
  unfold fX8_noRope
  rw [ald_0 (by omega) (by omega), hc, ob_s, L2, nI_sub (by omega) (by omega), within_i (nI_pos (by omega)) (by rw [nI_ltP (by omega) (by omega)]; omega)]
  simp (disch := omega) only [ob_s, ob2_some, ob3_some, ob4_some, pl2_mk, pl3_mk, pl4_mk, plet_d, reduceIte, ite_some, zbo_b, zbo_0, zbo_1, ite_b2i, ite_b2i1, b2i_t, b2i_f, Nat.succ_ne_zero, Nat.one_ne_zero, if_true, if_false, Bool.false_eq_true, wr_s, ite_self, thr_0 h0, show ¬ (1 : Int32) = 0 by decide]
theorem noR_o {J : Mem} {c : Nat} {x : Int32} (h0 : J 306 0 = 0) (hc : J 307 0 = nI c) (h2 : 2 ≤ c) (h10 : c ≤ 10) (hx : x < 0 ∨ nI (c - 1) ≤ x) : fX8_noRope x J = some (1, wr J 306 0 1) := by
  unfold fX8_noRope
  rw [ald_0 (by omega) (by omega), hc, ob_s, L2, nI_sub (by omega) (by omega), show c - 2 = c - 1 - 1 by omega, within_o (hx.imp id (fun h => lt_pred (b := 0) (c := c - 1) (by omega) (by omega) h))]
  simp (disch := omega) only [ob_s, ob2_some, ob3_some, ob4_some, pl2_mk, pl3_mk, pl4_mk, plet_d, reduceIte, ite_some, zbo_b, zbo_0, zbo_1, ite_b2i, ite_b2i1, b2i_t, b2i_f, Nat.succ_ne_zero, Nat.one_ne_zero, if_true, if_false, Bool.false_eq_true, wr_s, ite_self, thr_11 h0]
theorem chkB_i {I : Mem} {c j : Nat} (hc : I 2 0 = nI c) (h10 : c ≤ 10) (hj : j < c) : fX7_checkBuoy (nI j) I = some 0 := by
  unfold fX7_checkBuoy
  rw [if_neg (nI_pos (by omega)), hc, if_pos (by rw [nI_ltP (by omega) (by omega)]; omega)]
theorem chkB_o {I : Mem} {c : Nat} {x : Int32} (hc : I 2 0 = nI c) (hx : x < 0 ∨ nI c ≤ x) : fX7_checkBuoy x I = some 1 := by
  unfold fX7_checkBuoy
  by_cases h : x < 0
  · rw [if_pos h]
  · rw [if_neg h, hc, if_neg (nlt_of_le (hx.resolve_left h))]
theorem chkR_i {I : Mem} {c j : Nat} (hc : I 2 0 = nI c) (h10 : c ≤ 10) (hj : j + 1 < c) : fX7_checkRope (nI j) I = some 0 := by
  unfold fX7_checkRope
  rw [if_neg (nI_pos (by omega)), hc, nI_sub1 (by omega) (by omega), if_pos (by rw [nI_ltP (by omega) (by omega)]; omega)]
theorem chkR_o {I : Mem} {c : Nat} {x : Int32} (hc : I 2 0 = nI c) (h2 : 1 ≤ c) (h10 : c ≤ 10) (hx : x < 0 ∨ nI (c - 1) ≤ x) : fX7_checkRope x I = some 1 := by
  unfold fX7_checkRope
  by_cases h : x < 0
  · rw [if_pos h]
  · rw [if_neg h, hc, nI_sub1 (by omega) (by omega), if_neg (nlt_of_le (hx.resolve_left h))]
/-! division of numbers that are not negative -/
theorem nI_div {a b : Nat} (ha : a < 2 ^ 31) (hb : b < 2 ^ 31) (h0 : 0 < b) : nI a / nI b = nI (a / b) := by
  apply Int32.toInt_inj.mp
  rw [Int32.toInt_div, nI_toInt ha, nI_toInt hb, nI_toInt (Nat.lt_of_le_of_lt (Nat.div_le_self a b) ha)]
  rw [← Int.ofNat_tdiv]
  have h1 : a / b < 2 ^ 31 := Nat.lt_of_le_of_lt (Nat.div_le_self a b) ha
  generalize a / b = q at h1
  rw [Int.bmod_def]
  omega
theorem nI_rem {a b : Nat} (ha : a < 2 ^ 31) (hb : b < 2 ^ 31) (h0 : 0 < b) : rmi (nI a) (nI b) = some (nI (a % b)) := by
  unfold rmi
  rw [if_neg (nI_ne0 h0 hb), nI_div ha hb h0, nI_mul_n]
  have h1 := Nat.div_add_mod a b
  have h2 : a / b * b ≤ a := Nat.div_mul_le_self a b
  rw [nI_sub h2 ha]
  congr 2
  rw [Nat.mul_comm b] at h1
  omega
theorem xor_pos {a b : Nat} (ha : a < 2 ^ 31) (hb : b < 2 ^ 31) : 0 ≤ (nI a ^^^ nI b) := by
  have e : nI a ^^^ nI b = nI (a ^^^ b) := by
    apply Int32.toBitVec_inj.1
    show BitVec.ofNat 32 a ^^^ BitVec.ofNat 32 b = BitVec.ofNat 32 (a ^^^ b)
    apply BitVec.eq_of_getLsbD_eq
    intro i hi
    simp [hi]
  rw [e]
  exact nI_pos' (Nat.xor_lt_two_pow ha hb)
theorem fmod_n {a b : Nat} (ha : a < 2 ^ 31) (hb : b < 2 ^ 31) (h0 : 0 < b) : fJ9_floorMod_7cf53 (nI a) (nI b) = some (nI (a % b)) := by
  unfold fJ9_floorMod_7cf53
  rw [nI_rem ha hb h0, ob_s, if_pos (xor_pos ha hb)]
theorem row_e {b h : Nat} (hh : h < 2 ^ 31) : fX5_rowOf b (nI h) = some (nI (h % 24)) := by
  unfold fX5_rowOf
  rw [L24, fmod_n hh (by omega) (by omega)]
  rfl
theorem fk_e {I : Mem} {b e : Nat} (he : I b 7 = nI e) (h : e < 2 ^ 30) : fX5_firstKept b I = some (nI (e - 24)) := by
  unfold fX5_firstKept imax
  rw [he]
  by_cases h2 : 24 < e
  · rw [L24, nI_sub (by omega) (by omega), if_pos]
    show nI 0 < nI (e - 24)
    rw [nI_ltP (by omega) (by omega)]
    omega
  · rw [if_neg]
    · rw [show e - 24 = 0 by omega]; rfl
    · rw [Int32.lt_iff_toInt_lt, Int32.toInt_sub, nI_toInt (by omega), Int.bmod_def]
      have h3 : (24 : Int32).toInt = 24 := rfl
      have h4 : (0 : Int32).toInt = 0 := rfl
      rw [h3, h4]
      omega
theorem inK {e : Nat} (he : e < 2 ^ 30) (x : Int32) : (∃ h, kept e h ∧ x = nI h) ∨ (x < nI (e - 24) ∨ nI e ≤ x) := by
  rcases inb (lo := e - 24) (hi := e) (by omega) (by omega) x with ⟨j, h1, h2, rfl⟩ | h
  · exact Or.inl ⟨j, by unfold kept; omega, rfl⟩
  · exact Or.inr h
theorem rok_i {I : Mem} {e h : Nat} (he : I 1 7 = nI e) (h30 : e < 2 ^ 30) (k : kept e h) : fX7_rowOfKept (nI h) I = some (0, nI (h % 24)) := by
  unfold kept at k
  unfold fX7_rowOfKept
  rw [fk_e he h30, ob_s, if_neg (by rw [nI_ltP (by omega) (by omega)]; omega), he, if_pos (by rw [nI_ltP (by omega) (by omega)]; omega), row_e (by omega)]
  rfl
theorem rok_o {I : Mem} {e : Nat} {x : Int32} (he : I 1 7 = nI e) (h30 : e < 2 ^ 30) (hx : x < nI (e - 24) ∨ nI e ≤ x) : fX7_rowOfKept x I = some (1, 0) := by
  unfold fX7_rowOfKept
  rw [fk_e he h30, ob_s]
  by_cases h : x < nI (e - 24)
  · rw [if_pos h]
  · rw [if_neg h, he, if_neg (nlt_of_le (hx.resolve_left h))]
theorem fh_e {J : Mem} {e : Nat} (h5 : J 307 5 = nI e) (h6 : J 307 6 = nI (min e 24)) (h30 : e < 2 ^ 30) : fX8_firstHour J = some (nI (e - 24)) := by
  unfold fX8_firstHour
  rw [L5, L6, ald_n (by omega) (by omega), ald_n (by omega) (by omega), h5, h6, ob_s, ob_s, nI_sub (by omega) (by omega)]
  congr 2
  omega
theorem noH_i {J : Mem} {e h : Nat} (h0 : J 306 0 = 0) (h5 : J 307 5 = nI e) (h6 : J 307 6 = nI (min e 24)) (h30 : e < 2 ^ 30) (k : kept e h) : fX8_noHour (nI h) J = some (0, J) := by
  unfold kept at k
  unfold fX8_noHour
  rw [fh_e h5 h6 h30, ob_s, L5, ald_n (by omega) (by omega), h5, ob_s, nI_sub1 (by omega) (by omega), within_i (by rw [nI_ltP (by omega) (by omega)]; omega) (by rw [nI_ltP (by omega) (by omega)]; omega)]
  simp (disch := omega) only [ob_s, ob2_some, ob3_some, ob4_some, pl2_mk, pl3_mk, pl4_mk, plet_d, reduceIte, ite_some, zbo_b, zbo_0, zbo_1, ite_b2i, ite_b2i1, b2i_t, b2i_f, Nat.succ_ne_zero, Nat.one_ne_zero, if_true, if_false, Bool.false_eq_true, wr_s, ite_self, thr_0 h0, show ¬ (1 : Int32) = 0 by decide]
theorem noH_o {J : Mem} {e : Nat} {x : Int32} (h0 : J 306 0 = 0) (h5 : J 307 5 = nI e) (h6 : J 307 6 = nI (min e 24)) (h30 : e < 2 ^ 30) (hx : x < nI (e - 24) ∨ nI e ≤ x) : fX8_noHour x J = some (1, wr J 306 0 1) := by
  unfold fX8_noHour
  rw [fh_e h5 h6 h30, ob_s, L5, ald_n (by omega) (by omega), h5, ob_s]
  have hw : x < nI (e - 24) ∨ nI e - 1 < x := by
    rcases hx with h | h
    · exact Or.inl h
    · by_cases h1 : 1 ≤ e
      · rw [nI_sub1 h1 (by omega)]
        exact Or.inr (lt_pred (b := 0) h1 (by omega) h)
      · have : e = 0 := by omega
        subst this
        refine Or.inr ?_
        rw [Int32.lt_iff_toInt_lt]
        rw [Int32.le_iff_toInt_le] at h
        have a1 : (nI 0 - 1 : Int32).toInt = -1 := rfl
        have a2 : (nI 0 : Int32).toInt = 0 := rfl
        omega
  rw [within_o hw]
  simp (disch := omega) only [ob_s, ob2_some, ob3_some, ob4_some, pl2_mk, pl3_mk, pl4_mk, plet_d, reduceIte, ite_some, zbo_b, zbo_0, zbo_1, ite_b2i, ite_b2i1, b2i_t, b2i_f, Nat.succ_ne_zero, Nat.one_ne_zero, if_true, if_false, Bool.false_eq_true, wr_s, ite_self, thr_11 h0]
theorem of_e {J : Mem} {e h w : Nat} (h5 : J 307 5 = nI e) (h6 : J 307 6 = nI (min e 24)) (h30 : e < 2 ^ 30) (k : kept e h) (hw : w < 18) : fX8_of (nI h) (nI w) J = some (J 307 (hp e h + w)) := by
  have := kept_hp k
  unfold kept at k
  unfold fX8_of fX8_hourPlace
  rw [fh_e h5 h6 h30, ob_s, ob_s, nI_sub (by omega) (by omega), L142, L18, nI_mul_n, nI_add, nI_add, ald_n (by unfold hp at this; omega) (by omega)]
  rfl
theorem sets_e {J : Mem} {e h w : Nat} {v : Int32} (h5 : J 307 5 = nI e) (h6 : J 307 6 = nI (min e 24)) (h30 : e < 2 ^ 30) (k : kept e h) (hw : w < 18) : fX8_sets (nI h) (nI w) v J = some (wr J 307 (hp e h + w) v) := by
  have := kept_hp k
  unfold kept at k
  unfold fX8_sets fX8_hourPlace
  rw [fh_e h5 h6 h30, ob_s, ob_s, nI_sub (by omega) (by omega), L142, L18, nI_mul_n, nI_add, nI_add, ast_n (by unfold hp at this; omega) (by omega)]
  rfl
