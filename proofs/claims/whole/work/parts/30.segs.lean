/-! SEGMENTS, STORMS, PLANS: WHAT WOULD BE -/
theorem bd_force {x : Int32} {j : Nat} (h1 : 1 ≤ j) (h2 : j < 100) (h : x = nI j) : bd 1 99 x := by
  unfold bd
  rw [h, nI_toInt (by omega)]
  omega
theorem f1 {j : Nat} (h1 : 1 ≤ j) (h2 : j < 100) : ¬ nI j < 1 := show ¬ nI j < nI 1 by rw [nI_ltP (by omega) (by omega)]; omega
theorem f2 {j : Nat} (h2 : j < 100) : ¬ (99 : Int32) < nI j := show ¬ nI 99 < nI j by rw [nI_ltP (by omega) (by omega)]; omega
theorem f3 {j : Nat} (h2 : j < 100) : nI j ≤ 99 := show nI j ≤ nI 99 by rw [nI_leP (by omega) (by omega)]; omega
theorem chkF_i {j : Nat} (h1 : 1 ≤ j) (h2 : j < 100) : fX7_checkForce (nI j) = some 0 := by
  unfold fX7_checkForce
  rw [if_neg (f1 h1 h2), if_pos (f3 h2)]
theorem chkF_o {x : Int32} (h : x < nI 1 ∨ nI 100 ≤ x) : fX7_checkForce x = some 2 := by
  unfold fX7_checkForce
  by_cases h1 : x < 1
  · rw [if_pos h1]
  · rw [if_neg h1, if_neg (nle_of_lt (show (99 : Int32) < x from lt_pred (b := 0) (c := 100) (by omega) (by omega) (h.resolve_left h1)))]
theorem noF_i {J : Mem} {j : Nat} (h1 : 1 ≤ j) (h2 : j < 100) : fX8_noForce (nI j) J = some (0, wr J 306 0 0) := by
  unfold fX8_noForce
  rw [within_i (f1 h1 (by omega)) (f2 (by omega)), ob_s, plet_d, if_neg n10, thr_0 wr_s]
  rfl
theorem noF_o {J : Mem} {x : Int32} (h : x < nI 1 ∨ nI 100 ≤ x) : fX8_noForce x J = some (1, wr (wr J 306 0 0) 306 0 1) := by
  unfold fX8_noForce
  rw [within_o (show x < 1 ∨ (99 : Int32) < x from h.imp id (lt_pred (b := 0) (c := 100) (by omega) (by omega))), ob_s, plet_d, if_pos e00, thr_11 wr_s]
  rfl
theorem chkS_i {I : Mem} {c j f l : Nat} (hc : I 2 0 = nI c) (h10 : c ≤ 10) (h1 : 1 ≤ j) (h2 : j < 100) (hf : f ≤ l) (hl : l < c) : fX7_checkStorm (nI j) (nI f) (nI l) I = some 0 := by
  unfold fX7_checkStorm
  rw [chkB_i hc h10 (by omega), ob_s, if_pos rfl, chkB_i hc h10 hl, ob_s, if_pos rfl, chkF_i h1 h2, ob_s, if_pos rfl, if_pos (by rw [nI_leP (by omega) (by omega)]; omega)]
theorem noS_i {J : Mem} {c j f l : Nat} (h0 : J 306 0 = 0) (hc : J 307 0 = nI c) (h10 : c ≤ 10) (h1 : 1 ≤ j) (h2 : j < 100) (hf : f ≤ l) (hl : l < c) : fX8_noStorm (nI j) (nI f) (nI l) J = some (0, J) := by
  unfold fX8_noStorm
  rw [noB_i h0 hc h10 (by omega), ob2_some, if_pos rfl, noB_i h0 hc h10 hl, ob2_some, if_pos rfl, within_i (f1 h1 (by omega)) (f2 (by omega)), ob_s, plet_d, if_neg n10, if_pos (by rw [nI_leP (by omega) (by omega)]; omega), thr_0 h0, ob2_some, if_pos e00]
  rfl
/-- a storm is allowed, or refused by both in the same way -/
theorem storm_cases {c : Nat} {I J : Mem} (h2 : 2 ≤ c) (h10 : c ≤ 10) (I0 : I 2 0 = nI c) (t0 : J 306 0 = 0) (K0 : J 307 0 = nI c) (p0 p1 p2 : Int32) :
    (∃ j f l, 1 ≤ j ∧ j < 100 ∧ f ≤ l ∧ l < c ∧ p0 = nI j ∧ p1 = nI f ∧ p2 = nI l) ∨ (fX7_checkStorm p0 p1 p2 I = some 1 ∧ fX8_noStorm p0 p1 p2 J = some (1, wr J 306 0 1)) ∨ (fX7_checkStorm p0 p1 p2 I = some 2 ∧ fX8_noStorm p0 p1 p2 J = some (1, wr J 306 0 2)) := by
  rcases inx (c := c) (by omega) p1 with ⟨f, hf, rfl⟩ | hf
  · rcases inx (c := c) (by omega) p2 with ⟨l, hl, rfl⟩ | hl
    · rcases inb (lo := 1) (hi := 100) (by omega) (by omega) p0 with ⟨j, h1, h3, rfl⟩ | ho
      · by_cases hfl : f ≤ l
        · exact Or.inl ⟨j, f, l, h1, h3, hfl, hl, rfl, rfl, rfl⟩
        · refine Or.inr (Or.inr ⟨?_, ?_⟩)
          · unfold fX7_checkStorm
            rw [chkB_i I0 h10 hf, ob_s, if_pos rfl, chkB_i I0 h10 hl, ob_s, if_pos rfl, chkF_i h1 h3, ob_s, if_pos rfl, if_neg (by rw [nI_leP (by omega) (by omega)]; omega)]
          · unfold fX8_noStorm
            rw [noB_i t0 K0 h10 hf, ob2_some, if_pos rfl, noB_i t0 K0 h10 hl, ob2_some, if_pos rfl, within_i (f1 h1 (by omega)) (f2 (by omega)), ob_s, plet_d, if_neg n10, if_neg (show ¬ nI f ≤ nI l by rw [nI_leP (by omega) (by omega)]; omega), thr_12 t0, ob2_some, if_neg n10]
            rfl
      · refine Or.inr (Or.inr ⟨?_, ?_⟩)
        · unfold fX7_checkStorm
          rw [chkB_i I0 h10 hf, ob_s, if_pos rfl, chkB_i I0 h10 hl, ob_s, if_pos rfl, chkF_o ho, ob_s, if_neg (by decide)]
        · unfold fX8_noStorm
          rw [noB_i t0 K0 h10 hf, ob2_some, if_pos rfl, noB_i t0 K0 h10 hl, ob2_some, if_pos rfl, within_o (show p0 < 1 ∨ (99 : Int32) < p0 from ho.imp id (lt_pred (b := 0) (c := 100) (by omega) (by omega))), ob_s, plet_d, if_pos e00, thr_12 t0, ob2_some, if_neg n10]
          rfl
    · refine Or.inr (Or.inl ⟨?_, ?_⟩)
      · unfold fX7_checkStorm
        rw [chkB_i I0 h10 hf, ob_s, if_pos rfl, chkB_o I0 hl, ob_s, if_neg (by decide)]
      · unfold fX8_noStorm
        rw [noB_i t0 K0 h10 hf, ob2_some, if_pos rfl, noB_o t0 K0 (by omega) h10 hl, ob2_some, if_neg n10]
        rfl
  · refine Or.inr (Or.inl ⟨?_, ?_⟩)
    · unfold fX7_checkStorm
      rw [chkB_o I0 hf, ob_s, if_neg (by decide)]
    · unfold fX8_noStorm
      rw [noB_o t0 K0 (by omega) h10 hf, ob2_some, if_neg n10]
      rfl
/-! ropes that break -/
def bq (F : Row) (fo : Int32) (k : Nat) : Bool := !broB F k && decide (¬ F (122 + k) + fo ≤ F (112 + k))
def bset (F : Row) (fo : Int32) (f l : Nat) : Int32 := bsl (bq F fo) f (l - f) 0
def brS (c : Nat) (F : Row) : Int32 := bsl (broB F) 0 (c - 1) 0
theorem brk_L {c e f l : Nat} {I : Mem} {F : Row} {fo : Int32} (hW : EW c e I 1 F) (hf : f ≤ l) (hl : l < c) : ∀ (d j n : Nat) (a : Int32), j + d = c - 1 → d < n → fX5_breaking_L6 1 fo (nI f) (nI l) n (nI j) a I = some (bsl (fun k => decide (f ≤ k) && decide (k < l) && bq F fo k) j d a) := by
  have h10 := hW.c10
  have I0 : I (1 + 1) 0 = nI c := hW.2.1.1
  have hbr : I (1 + 11) 0 = bsl (broB F) 0 (c - 1) 0 := hW.2.1.2.2.2.2.2.2.2.2.2.2.1
  intro d
  induction d with
  | zero =>
    intro j n a hj hn
    obtain ⟨n, rfl⟩ := fuel hn
    rw [fX5_breaking_L6, I0, nI_sub1 (by omega) (by omega), if_pos (by rw [nI_leP (by omega) (by omega)]; omega)]
    rfl
  | succ d ih =>
    intro j n a hj hn
    obtain ⟨n, rfl⟩ := fuel hn
    obtain ⟨r1, r2⟩ := hW.2.2.2.1 j (by omega)
    have hstep : fX5_breaking_L6 1 fo (nI f) (nI l) (n + 1) (nI j) a I = fX5_breaking_L6 1 fo (nI f) (nI l) n (nI (j + 1)) (if (decide (f ≤ j) && decide (j < l) && bq F fo j) = true then a ||| bit1 j else a) I := by
      rw [fX5_breaking_L6, I0, nI_sub1 (by omega) (by omega), if_neg (show ¬ nI (c - 1) ≤ nI j by rw [nI_leP (by omega) (by omega)]; omega), hbr, has7 (by omega), has_bsl (show j < c - 1 by omega) (by omega), nI_1, ald_n (by omega) (by omega), ald_n (by omega) (by omega), r1, r2]
      unfold bq
      by_cases h1 : j < f
      · rw [if_pos (show nI j < nI f by rw [nI_ltP (by omega) (by omega)]; omega), ob_s, if_pos e00, ob_s]
        simp [show ¬ f ≤ j by omega]
      · rw [if_neg (show ¬ nI j < nI f by rw [nI_ltP (by omega) (by omega)]; omega)]
        by_cases h3 : l ≤ j
        · rw [if_pos (show nI l ≤ nI j by rw [nI_leP (by omega) (by omega)]; omega), ob_s, if_pos e00, ob_s]
          simp [show ¬ j < l by omega]
        · rw [if_neg (show ¬ nI l ≤ nI j by rw [nI_leP (by omega) (by omega)]; omega), ob_s]
          cases hb : broB F j
          · rw [b2i_f, if_pos e00, ob_s, if_neg n10, ob_s, ob_s]
            by_cases h4 : F (122 + j) + fo ≤ F (112 + j)
            · rw [if_pos h4, ob_s]
              simp [h4]
            · rw [if_neg h4, ob_s]
              simp [h4, show f ≤ j by omega, show j < l by omega, bit1]
          · rw [b2i_t, if_neg n10, ob_s, if_pos e00, ob_s]
            simp
    rw [hstep]
    exact ih (j + 1) n _ (by omega) (by omega)
theorem brk7 {c e f l : Nat} {I : Mem} {F : Row} {fo : Int32} (hW : EW c e I 1 F) (hf : f ≤ l) (hl : l < c) : fX5_breaking 1 fo (nI f) (nI l) I = some (bset F fo f l) := by
  have h10 := hW.c10
  unfold fX5_breaking
  rw [show fX5_breaking_L6 1 fo (nI f) (nI l) zF 0 0 I = _ from brk_L hW hf hl (c - 1) 0 zF 0 (by omega) (zF_g (by omega)), ob_s]
  congr 1
  apply b_ext
  intro i hi
  unfold bset
  rw [b_bsl hi _ _ _ (by omega), b_bsl hi _ _ _ (by omega), b_0]
  by_cases h1 : f ≤ i
  · by_cases h2 : i < l
    · simp [h1, h2, show i < c - 1 by omega, show i < f + (l - f) by omega]
    · simp [h2, show ¬ i < f + (l - f) by omega]
  · simp [h1]
theorem brs_L {f l : Nat} {J : Mem} {F : Row} {fo : Int32} (hF : J 307 = F) (hl : l < 10) (hw : ∀ j, j < l → F (132 + j) = 0 ∨ F (132 + j) = 1) : ∀ (d j n : Nat) (a : Int32), j + d = l → d < n → fX8_breaks_L6 fo (nI l) n (nI j) a J = some (bsl (bq F fo) j d a) := by
  intro d
  induction d with
  | zero =>
    intro j n a hj hn
    obtain ⟨n, rfl⟩ := fuel hn
    rw [fX8_breaks_L6, if_pos (by rw [nI_leP (by omega) (by omega)]; omega)]
    rfl
  | succ d ih =>
    intro j n a hj hn
    obtain ⟨n, rfl⟩ := fuel hn
    have hstep : fX8_breaks_L6 fo (nI l) (n + 1) (nI j) a J = fX8_breaks_L6 fo (nI l) n (nI (j + 1)) (if bq F fo j = true then a ||| bit1 j else a) J := by
      rw [fX8_breaks_L6, if_neg (by rw [nI_leP (by omega) (by omega)]; omega), L132, L122, L112, nI_add, nI_add, nI_add, ald_n (by omega) (by omega), ald_n (by omega) (by omega), ald_n (by omega) (by omega), hF, nI_1]
      unfold bq broB
      rcases hw j (by omega) with h | h
      · by_cases h4 : F (122 + j) + fo ≤ F (112 + j)
        · simp [h, h4, ob_s]
        · simp [h, h4, ob_s, bit1]
      · simp [h, ob_s]
    rw [hstep]
    exact ih (j + 1) n _ (by omega) (by omega)
theorem brk8 {c e f l : Nat} {I J : Mem} {F : Row} {fo : Int32} (hW : EW c e I 1 F) (hF : J 307 = F) (hf : f ≤ l) (hl : l < c) : fX8_breaks fo (nI f) (nI l) J = some (bset F fo f l) := by
  have h10 := hW.c10
  unfold fX8_breaks
  rw [brs_L (f := f) hF (by omega) (fun j hj => hW.1.2.2.1 j (by omega)) (l - f) f zF 0 (by omega) (zF_g (by omega))]
  rfl
theorem q_23 : eqP_23 Rel := by
  intro n I J hn hR p0 p1 p2
  obtain ⟨c, e, ⟨h2, h10, h30, -⟩, ⟨J0, J5, J6⟩, ⟨I0, I7⟩, hW⟩ := hR.facts hn
  have t0 : (wr J 306 0 0) 306 0 = 0 := wr_s
  have K0 : (wr J 306 0 0) 307 0 = nI c := w7.trans J0
  have K7 : (wr J 306 0 0) 307 = J 307 := funext fun j => w7
  unfold fX7_wouldBreak fX8_wouldBreak
  rcases storm_cases (I := I) (J := wr J 306 0 0) h2 h10 I0 t0 K0 p0 p1 p2 with ⟨j, f, l, h1, h3, hf, hl, rfl, rfl, rfl⟩ | ⟨a1, a2⟩ | ⟨a1, a2⟩
  · refine ⟨0, bset (J 307) (nI j) f l, bset (J 307) (nI j) f l, wr J 306 0 0, ?_, ?_, Rel.J0 hR 0, Or.inl ⟨rfl, wr_s, rfl⟩⟩
    · rw [chkS_i I0 h10 h1 h3 hf hl, ob_s, if_pos rfl, brk7 hW hf hl]
      rfl
    · rw [noS_i t0 K0 h10 h1 h3 hf hl, ob2_some, if_pos rfl, brk8 hW K7 hf hl]
      rfl
  · exact ⟨1, 0, 0, wr (wr J 306 0 0) 306 0 1, by rw [a1]; rfl, by rw [a2]; rfl, wJ0 hR 1, Or.inr (Or.inl ⟨rfl, wr_s⟩)⟩
  · exact ⟨2, 0, 0, wr (wr J 306 0 0) 306 0 2, by rw [a1]; rfl, by rw [a2]; rfl, wJ0 hR 2, Or.inr (Or.inr ⟨rfl, wr_s⟩)⟩
/-! segments of a set of broken ropes -/
def lstf (B : Int32) : Nat → Nat → Nat
  | 0, j => j
  | d + 1, j => if bt B j then j else lstf B d (j + 1)
def lst (c : Nat) (B : Int32) (j : Nat) : Nat := lstf B (c - 1 - j) j
theorem lstf_p {B : Int32} : ∀ (d j : Nat), j ≤ lstf B d j ∧ lstf B d j ≤ j + d ∧ (∀ x, j ≤ x → x < lstf B d j → bt B x = false) ∧ (lstf B d j = j + d ∨ bt B (lstf B d j) = true)
  | 0, j => ⟨Nat.le_refl _, Nat.le_refl _, fun x h1 h2 => absurd h2 (by show ¬ x < j; omega), Or.inl rfl⟩
  | d + 1, j => by
    unfold lstf
    cases h : bt B j
    · obtain ⟨h1, h2, h3, h4⟩ := lstf_p (B := B) d (j + 1)
      simp only [Bool.false_eq_true, if_false]
      refine ⟨by omega, by omega, fun x a1 a2 => ?_, ?_⟩
      · by_cases hx : x = j
        · rw [hx]; exact h
        · exact h3 x (by omega) a2
      · rcases h4 with h4 | h4
        · exact Or.inl (by omega)
        · exact Or.inr h4
    · simp only [if_true]
      exact ⟨Nat.le_refl _, by omega, fun x a1 a2 => absurd a2 (by omega), Or.inr h⟩
theorem lst_p {c j : Nat} {B : Int32} (hj : j < c) : j ≤ lst c B j ∧ lst c B j < c ∧ (∀ x, j ≤ x → x < lst c B j → bt B x = false) ∧ (lst c B j = c - 1 ∨ bt B (lst c B j) = true) := by
  obtain ⟨h1, h2, h3, h4⟩ := lstf_p (B := B) (c - 1 - j) j
  exact ⟨h1, by unfold lst; omega, h3, h4.imp (fun h => by unfold lst; omega) id⟩
theorem lst_L {c : Nat} {B : Int32} {J : Mem} (K0 : J 307 0 = nI c) (h10 : c ≤ 10) : ∀ (d j n : Nat), j + d = c - 1 → j < c → d < n → fX8_lastOf_L2 B n (nI j) J = some (nI (lstf B d j)) := by
  intro d
  induction d with
  | zero =>
    intro j n hj hjc hn
    obtain ⟨n, rfl⟩ := fuel hn
    rw [fX8_lastOf_L2, ald_0 (by omega) (by omega), K0, ob_s, nI_1, if_pos (by rw [nI_leP (by omega) (by omega)]; omega)]
    rfl
  | succ d ih =>
    intro j n hj hjc hn
    obtain ⟨n, rfl⟩ := fuel hn
    rw [fX8_lastOf_L2, ald_0 (by omega) (by omega), K0, ob_s, nI_1, if_neg (by rw [nI_leP (by omega) (by omega)]; omega), has8 (by omega), ob_s, ite_b2i]
    unfold lstf
    cases h : bt B j
    · simp only [Bool.false_eq_true, if_false]
      exact ih (j + 1) n (by omega) (by omega) (by omega)
    · simp only [if_true]
theorem lst_e {c j : Nat} {B : Int32} {J : Mem} (K0 : J 307 0 = nI c) (h10 : c ≤ 10) (hj : j < c) : fX8_lastOf (nI j) B J = some (nI (lst c B j)) := by
  unfold fX8_lastOf
  rw [lst_L K0 h10 (c - 1 - j) j zF (by omega) hj (zF_g (by omega))]
  rfl
def hsum (F : Row) : Nat → Nat → Int32 → Int32 := itr (fun b a => a + F (32 + b))
theorem holds_L {J : Mem} {F : Row} (hF : J 307 = F) {t : Nat} (ht : t < 10) : ∀ (d j n : Nat) (a : Int32), j + d = t + 1 → d < n → fX8_holds_L5 (nI t) n (nI j) a J = some (hsum F j d a) := by
  intro d
  induction d with
  | zero =>
    intro j n a hj hn
    obtain ⟨n, rfl⟩ := fuel hn
    rw [fX8_holds_L5, if_pos (by rw [nI_ltP (by omega) (by omega)]; omega)]
    rfl
  | succ d ih =>
    intro j n a hj hn
    obtain ⟨n, rfl⟩ := fuel hn
    rw [fX8_holds_L5, if_neg (by rw [nI_ltP (by omega) (by omega)]; omega), L32, nI_add, ald_n (by omega) (by omega), ob_s, hF, nI_1]
    exact ih (j + 1) n _ (by omega) (by omega)
theorem holds_e {J : Mem} {F : Row} (hF : J 307 = F) {j t : Nat} (ht : t < 10) (hj : j ≤ t) : fX8_holds (nI j) (nI t) J = some (hsum F j (t + 1 - j) 0) := by
  unfold fX8_holds
  rw [holds_L hF ht (t + 1 - j) j zF 0 (by omega) (zF_g (by omega))]
  rfl
def seg1 (j d : Nat) (a : Int32) : Int32 := itr (fun b a => a ||| bit1 b) j d a
theorem setOf_0 : ∀ t, t < 10 → ∀ j, j < 10 → j ≤ t → fX8_setOf (nI j) (nI t) = some (seg1 j (t + 1 - j) 0) := by decide +kernel
theorem seg1_or : ∀ (d j : Nat) (a b : Int32), a ||| seg1 j d b = seg1 j d (a ||| b)
  | 0, _, _, _ => rfl
  | d + 1, j, a, b => by
    show a ||| seg1 (j + 1) d (b ||| bit1 j) = seg1 (j + 1) d (a ||| b ||| bit1 j)
    rw [seg1_or d (j + 1), Int32.or_assoc]
theorem ends_e {I : Mem} {b c j : Nat} {B : Int32} (hc : I (b + 1) 0 = nI c) (h1 : 1 ≤ c) (h10 : c ≤ 10) (hj : j < c) : fX5_endsSegment b (nI j) B I = some (b2i (decide (j = c - 1) || bt B j)) := by
  unfold fX5_endsSegment
  rw [hc, nI_sub1 h1 (by omega), has7 (by omega), ob_s]
  by_cases h : j = c - 1
  · rw [if_pos (show nI j = nI (c - 1) by rw [h])]
    simp [h, b2i, zbo]
  · rw [if_neg (show ¬ nI j = nI (c - 1) by rw [nI_eqP (by omega) (by omega)]; exact h)]
    cases hb : bt B j <;> simp [h, b2i, zbo]
def hitf (f l : Int32) (b : Nat) : Int32 := if nI b < f then 0 else if l < nI b then 0 else 1
def hits (f l : Int32) : Nat → Nat → Int32 → Int32 := itr (fun b a => a + hitf f l b)
theorem itr_one {A : Type} {f : Nat → A → A} {j : Nat} {a : A} : itr f j 1 a = f j a := rfl
/-- the class goes through one segment -/
theorem dr_run {I : Mem} {F : Row} {c t : Nat} {B fo f l : Int32} (I0 : I (1 + 1) 0 = nI c) (h10 : c ≤ 10) (hH : ∀ j, j < c → I (1 + 4) j = F (32 + j)) (ht : t < c) (he : t = c - 1 ∨ bt B t = true) :
    ∀ (d b n : Nat) (a8 a7 a6 a5 : Int32), b + d = t → (∀ x, b ≤ x → x < t → bt B x = false) → fX5_drifting_L32 1 B fo f l (n + d + 1) (nI b) a8 a7 a6 a5 I = fX5_drifting_L32 1 B fo f l n (nI (t + 1)) 0 0 0 (if fo * hits f l b (d + 1) a8 ≤ hsum F b (d + 1) a7 then a5 else a5 ||| seg1 b (d + 1) a6) I := by
  intro d
  induction d with
  | zero =>
    intro b n a8 a7 a6 a5 hb hx
    have hbt : b = t := by omega
    subst hbt
    rw [fX5_drifting_L32, I0, if_neg (by rw [nI_leP (by omega) (by omega)]; omega), ald_n (by omega) (by omega), ob_s, plet_d, ends_e (b := 1) I0 (by omega) h10 ht, ob_s, hH b ht, nI_1]
    have hd : (decide (b = c - 1) || bt B b) = true := by rcases he with h | h <;> simp [h]
    rw [hd, b2i_t, if_neg n10, plet_d, pl4_mk]
    rfl
  | succ d ih =>
    intro b n a8 a7 a6 a5 hb hx
    have hxb := hx b (Nat.le_refl _) (by omega)
    rw [show n + (d + 1) + 1 = (n + d + 1) + 1 by omega, fX5_drifting_L32, I0, if_neg (by rw [nI_leP (by omega) (by omega)]; omega), ald_n (by omega) (by omega), ob_s, plet_d, ends_e (b := 1) I0 (by omega) h10 (show b < c by omega), ob_s, hH b (by omega), nI_1]
    have hd : (decide (b = c - 1) || bt B b) = false := by rw [hxb]; simp; omega
    rw [hd, b2i_f, if_pos e00, pl4_mk]
    exact ih (b + 1) n (a8 + hitf f l b) (a7 + F (32 + b)) (a6 ||| bit1 b) a5 (by omega) (fun x h1 h2 => hx x (by omega) h2)
theorem hits_L {a6 a5 fo f l B : Int32} {t : Nat} (ht : t < 10) : ∀ (d j n : Nat) (a : Int32), j + d = t + 1 → d < n → fX8_drifts_L34 (nI t) a6 a5 fo f l B n (nI j) a = some (hits f l j d a) := by
  intro d
  induction d with
  | zero =>
    intro j n a hj hn
    obtain ⟨n, rfl⟩ := fuel hn
    rw [fX8_drifts_L34, if_pos (by rw [nI_ltP (by omega) (by omega)]; omega)]
    rfl
  | succ d ih =>
    intro j n a hj hn
    obtain ⟨n, rfl⟩ := fuel hn
    have hw : (Option.bind (fX8_within (nI j) f l) fun x3 => plet (if x3 = 0 then (0 : Int32) else 1) fun x4 => fX8_drifts_L34 (nI t) a6 a5 fo f l B n (nI j + 1) (a + x4)) = fX8_drifts_L34 (nI t) a6 a5 fo f l B n (nI j + 1) (a + hitf f l j) := by
      unfold hitf
      by_cases h1 : nI j < f
      · rw [within_o (Or.inl h1), if_pos h1]; rfl
      · by_cases h2 : l < nI j
        · rw [within_o (Or.inr h2), if_neg h1, if_pos h2]; rfl
        · rw [within_i h1 h2, if_neg h1, if_neg h2]; rfl
    rw [fX8_drifts_L34, if_neg (by rw [nI_ltP (by omega) (by omega)]; omega), hw, nI_1]
    exact ih (j + 1) n _ (by omega) (by omega)
theorem dr_all {I J : Mem} {F : Row} {c : Nat} {B fo f l : Int32} (I0 : I (1 + 1) 0 = nI c) (h10 : c ≤ 10) (hH : ∀ j, j < c → I (1 + 4) j = F (32 + j)) (hF : J 307 = F) (K0 : J 307 0 = nI c) :
    ∀ (k b n m : Nat) (a5 : Int32), b + k = c → k < n → k < m → ∃ r, fX5_drifting_L32 1 B fo f l n (nI b) 0 0 0 a5 I = some r ∧ fX8_drifts_L6 fo f l B m (nI b) a5 J = some r := by
  intro k
  induction k using Nat.strongRecOn with
  | _ k ih =>
    intro b n m a5 hb hn hm
    obtain ⟨m, rfl⟩ := fuel hm
    by_cases hk : k = 0
    · obtain ⟨n, rfl⟩ := fuel hn
      refine ⟨a5, ?_, ?_⟩
      · rw [fX5_drifting_L32, I0, if_pos (by rw [nI_leP (by omega) (by omega)]; omega)]
      · rw [fX8_drifts_L6, ald_0 (by omega) (by omega), K0, ob_s, if_pos (by rw [nI_leP (by omega) (by omega)]; omega)]
    · obtain ⟨p1, p2, p3, p4⟩ := lst_p (c := c) (B := B) (j := b) (by omega)
      have hrun := dr_run (F := F) (fo := fo) (f := f) (l := l) I0 h10 hH p2 p4 (lst c B b - b) b (n - (lst c B b - b) - 1) 0 0 0 a5 (by omega) p3
      rw [show n - (lst c B b - b) - 1 + (lst c B b - b) + 1 = n by omega, show lst c B b - b + 1 = lst c B b + 1 - b by omega] at hrun
      obtain ⟨r, r1, r2⟩ := ih (c - (lst c B b + 1)) (by omega) (lst c B b + 1) (n - (lst c B b - b) - 1) m (if fo * hits f l b (lst c B b + 1 - b) 0 ≤ hsum F b (lst c B b + 1 - b) 0 then a5 else a5 ||| seg1 b (lst c B b + 1 - b) 0) (by omega) (by omega) (by omega)
      refine ⟨r, hrun.trans r1, ?_⟩
      rw [← r2, fX8_drifts_L6, ald_0 (by omega) (by omega), K0, ob_s, if_neg (by rw [nI_leP (by omega) (by omega)]; omega), lst_e K0 h10 (by omega), ob_s, hits_L (by omega) (lst c B b + 1 - b) b zF 0 (by omega) (zF_g (by omega)), ob_s, holds_e hF (by omega) p1, ob_s, setOf_0 _ (by omega) _ (by omega) p1, nI_1]
      by_cases hc : fo * hits f l b (lst c B b + 1 - b) 0 ≤ hsum F b (lst c B b + 1 - b) 0
      · rw [if_pos hc, if_pos hc, ob_s, Int32.or_zero]
      · rw [if_neg hc, if_neg hc, ob_s, ob_s]
/-- what would drift -/
theorem drift_e {c e f l : Nat} {I J : Mem} {F : Row} {fo : Int32} (hW : EW c e I 1 F) (hF : J 307 = F) (hf : f ≤ l) (hl : l < c) : ∃ r, fX5_drifting 1 fo (nI f) (nI l) I = some r ∧ fX8_drifts fo (nI f) (nI l) (brS c F ||| bset F fo f l) J = some r := by
  have h10 := hW.c10
  have hbr : I (1 + 11) 0 = bsl (broB F) 0 (c - 1) 0 := hW.2.1.2.2.2.2.2.2.2.2.2.2.1
  obtain ⟨r, r1, r2⟩ := dr_all (F := F) (B := brS c F ||| bset F fo f l) (fo := fo) (f := nI f) (l := nI l) hW.2.1.1 h10 (fun j hj => (hW.2.2.1 j hj).2.2.1) hF (by rw [hF]; exact hW.1.1.2.2.1) c 0 zF zF 0 (by omega) (zF_g (by omega)) (zF_g (by omega))
  refine ⟨r, ?_, ?_⟩
  · unfold fX5_drifting
    rw [brk7 hW hf hl, ob_s, hbr, show fX5_drifting_L32 1 (bsl (broB F) 0 (c - 1) 0 ||| bset F fo f l) fo (nI f) (nI l) zF 0 0 0 0 0 I = _ from r1]
    rfl
  · unfold fX8_drifts
    rw [show fX8_drifts_L6 fo (nI f) (nI l) (brS c F ||| bset F fo f l) zF 0 0 J = _ from r2]
    rfl
theorem q_24 : eqP_24 Rel := by
  intro n I J hn hR p0 p1 p2
  obtain ⟨c, e, ⟨h2, h10, h30, -⟩, ⟨J0, J5, J6⟩, ⟨I0, I7⟩, hW⟩ := hR.facts hn
  have t0 : (wr J 306 0 0) 306 0 = 0 := wr_s
  have K0 : (wr J 306 0 0) 307 0 = nI c := w7.trans J0
  have K7 : (wr J 306 0 0) 307 = J 307 := funext fun j => w7
  unfold fX7_wouldDrift fX8_wouldDrift
  rcases storm_cases (I := I) (J := wr J 306 0 0) h2 h10 I0 t0 K0 p0 p1 p2 with ⟨j, f, l, h1, h3, hf, hl, rfl, rfl, rfl⟩ | ⟨a1, a2⟩ | ⟨a1, a2⟩
  · obtain ⟨r, r1, r2⟩ := drift_e (fo := nI j) hW K7 hf hl
    refine ⟨0, r, r, wr J 306 0 0, ?_, ?_, Rel.J0 hR 0, Or.inl ⟨rfl, wr_s, rfl⟩⟩
    · rw [chkS_i I0 h10 h1 h3 hf hl, ob_s, if_pos rfl, r1]
      rfl
    · rw [noS_i t0 K0 h10 h1 h3 hf hl, ob2_some, if_pos rfl, brok_e K0 (by omega) h10, ob_s, brk8 hW K7 hf hl, ob_s, K7, show bsl (broB (J 307)) 0 (c - 1) 0 = brS c (J 307) from rfl, r2]
      rfl
  · exact ⟨1, 0, 0, wr (wr J 306 0 0) 306 0 1, by rw [a1]; rfl, by rw [a2]; rfl, wJ0 hR 1, Or.inr (Or.inl ⟨rfl, wr_s⟩)⟩
  · exact ⟨2, 0, 0, wr (wr J 306 0 0) 306 0 2, by rw [a1]; rfl, by rw [a2]; rfl, wJ0 hR 2, Or.inr (Or.inr ⟨rfl, wr_s⟩)⟩
theorem least_st {c e : Nat} {I J : Mem} {F : Row} (hW : EW c e I 1 F) (hF : J 307 = F) : ∀ (d j n m : Nat), j + d = 100 → d < n → d < m → (∃ r, fX7_leastStorm_L2 n (nI j) I = some (1, r) ∧ fX8_leastStorm_L16 (nI (c - 1)) m (nI j) J = some (1, r)) ∨ (fX7_leastStorm_L2 n (nI j) I = some (0, 0) ∧ fX8_leastStorm_L16 (nI (c - 1)) m (nI j) J = some (0, 0)) := by
  have h10 := hW.c10
  have h2 := hW.1.1.1
  have K0 : J 307 0 = nI c := by rw [hF]; exact hW.1.1.2.2.1
  intro d
  induction d with
  | zero =>
    intro j n m hj hn hm
    obtain ⟨n, rfl⟩ := fuel hn
    obtain ⟨m, rfl⟩ := fuel hm
    refine Or.inr ⟨?_, ?_⟩
    · rw [fX7_leastStorm_L2, if_pos (show (99 : Int32) < nI j from show nI 99 < nI j by rw [nI_ltP (by omega) (by omega)]; omega)]
    · rw [fX8_leastStorm_L16, if_pos (show (100 : Int32) ≤ nI j from show nI 100 ≤ nI j by rw [nI_leP (by omega) (by omega)]; omega)]
  | succ d ih =>
    intro j n m hj hn hm
    obtain ⟨n, rfl⟩ := fuel hn
    obtain ⟨m, rfl⟩ := fuel hm
    obtain ⟨r, r1, r2⟩ := drift_e (fo := nI j) hW hF (f := 0) (l := c - 1) (Nat.zero_le _) (by omega)
    have hb := brk8 (fo := nI j) hW hF (f := 0) (l := c - 1) (Nat.zero_le _) (by omega)
    rw [fX7_leastStorm_L2, if_neg (show ¬ (99 : Int32) < nI j from show ¬ nI 99 < nI j by rw [nI_ltP (by omega) (by omega)]; omega), show I 2 0 = nI c from hW.2.1.1, nI_sub1 (by omega) (by omega), show fX5_drifting 1 (nI j) 0 (nI (c - 1)) I = _ from r1, ob_s, fX8_leastStorm_L16, if_neg (show ¬ (100 : Int32) ≤ nI j from show ¬ nI 100 ≤ nI j by rw [nI_leP (by omega) (by omega)]; omega), brok_e K0 (by omega) h10, ob_s, show fX8_breaks (nI j) 0 (nI (c - 1)) J = _ from hb, ob_s, hF, show bsl (broB F) 0 (c - 1) 0 = brS c F from rfl, show fX8_drifts (nI j) 0 (nI (c - 1)) (brS c F ||| bset F (nI j) 0 (c - 1)) J = _ from r2, ob_s, nI_1]
    by_cases h0 : r = 0
    · rw [if_pos h0, if_pos h0]
      exact ih (j + 1) n m (by omega) (by omega) (by omega)
    · rw [if_neg h0, if_neg h0]
      exact Or.inl ⟨nI j, rfl, rfl⟩
theorem q_25 : eqP_25 Rel := by
  intro n I J hn hR _
  obtain ⟨c, e, ⟨h2, h10, h30, -⟩, ⟨J0, J5, J6⟩, ⟨I0, I7⟩, hW⟩ := hR.facts hn
  have K0 : (wr J 306 0 0) 307 0 = nI c := w7.trans J0
  have K7 : (wr J 306 0 0) 307 = J 307 := funext fun j => w7
  unfold fX7_leastStorm fX8_leastStorm
  rw [ald_0 (by omega) (by omega), K0, ob_s, nI_sub1 (by omega) (by omega)]
  rcases least_st hW K7 99 1 zF zF rfl (zF_g (by omega)) (zF_g (by omega)) with ⟨r, r1, r2⟩ | ⟨r1, r2⟩
  · exact ⟨r, wr J 306 0 0, by rw [show fX7_leastStorm_L2 zF 1 I = _ from r1]; rfl, by rw [show fX8_leastStorm_L16 (nI (c - 1)) zF 1 (wr J 306 0 0) = _ from r2]; rfl, Rel.J0 hR 0⟩
  · exact ⟨-1, wr J 306 0 0, by rw [show fX7_leastStorm_L2 zF 1 I = _ from r1]; rfl, by rw [show fX8_leastStorm_L16 (nI (c - 1)) zF 1 (wr J 306 0 0) = _ from r2]; rfl, Rel.J0 hR 0⟩
theorem q_20 : eqP_20 Rel := by
  intro n I J hn hR _
  obtain ⟨c, e, ⟨h2, h10, h30, -⟩, ⟨J0, J5, J6⟩, ⟨I0, I7⟩, hW⟩ := hR.facts hn
  have K0 : (wr J 306 0 0) 307 0 = nI c := w7.trans J0
  have K7 : (wr J 306 0 0) 307 = J 307 := funext fun j => w7
  have hbr : I 12 0 = bsl (broB (J 307)) 0 (c - 1) 0 := hW.2.1.2.2.2.2.2.2.2.2.2.2.1
  unfold fX7_segments fX8_segments
  refine ⟨pc10 (bsl (broB (J 307)) 0 (c - 1) 0) + 1, wr J 306 0 0, ?_, ?_, Rel.J0 hR 0⟩
  · rw [hbr, bc_e (fun i hi => bsl_hi (by omega) (by omega))]
    rfl
  · rw [brok_e K0 (by omega) h10, ob_s, K7, bits8]
    rfl
