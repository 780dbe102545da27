/-! CALLS THAT TALLY A KEPT HOUR, OR GO THROUGH THE KEPT HOURS -/
def qV (F : Row) : Nat → Int32 := fun j => F (22 + j)
def qW (F : Row) (q : Nat) : Nat → Int32 := fun j => F (q + 8 + j)
def xM (c : Nat) (F : Row) (W : Nat → Int32) (s : Int32) : Int32 := tMid c s (qV F) W 100000
def xSup (c : Nat) (F : Row) (W : Nat → Int32) (s : Int32) : Int32 := tSup c s W (F 1) (xM c F W s)
def xHas (c : Nat) (F : Row) (W : Nat → Int32) (s : Int32) : Bool := tHas c s (qV F) W (F 1) (xM c F W s)
def xLev (c : Nat) (F : Row) (W : Nat → Int32) (s : Int32) : Int32 := tLev c s (qV F) W (F 1) (xM c F W s)
theorem zl4 : zb_ln 4 = 10 := by decide
theorem zl24 : zb_ln 24 = 240 := by decide
theorem zl55 : zb_ln 55 = 10 := by decide
theorem EW.bt1 {c e : Nat} {I : Mem} {b : Nat} {F : Row} (h : EW c e I b F) : bd 0 999 (F 1) := h.1.1.2.2.2.2.2.1
theorem EW.c10 {c e : Nat} {I : Mem} {b : Nat} {F : Row} (h : EW c e I b F) : c ≤ 10 := h.1.1.2.1
theorem and_hi {x y : Int32} {c : Nat} (h : ∀ i, c ≤ i → bt x i = false) : ∀ i, c ≤ i → bt (x &&& y) i = false := fun i hi => by rw [b_and, h i hi]; rfl
/-- the class tells an hour's row -/
theorem cRow {c e h : Nat} {I : Mem} {F : Row} {s : Int32} (hW : EW c e I 1 F) (k : kept e h) (hs : ∀ i, c ≤ i → bt s i = false) :
    ∃ I', fX5_countRow 1 (nI (h % 24)) s I = some I' ∧ (∀ k i, ¬ (k = 52 ∨ k = 53 ∨ k = 54) → I' k i = I k i) ∧ I' 52 0 = xSup c F (qW F (hp e h)) s ∧ I' 52 1 = b2i (xHas c F (qW F (hp e h)) s) ∧ I' 52 2 = xLev c F (qW F (hp e h)) s := by
  have hr : h % 24 < 24 := Nat.mod_lt _ (by omega)
  have h10 := hW.c10
  have q3 : I 1 3 = F 1 := hW.2.1.2.1
  have hb := hW.1.2.1
  have hq := hW.1.2.2.2 h k
  have hv := (hW.2.2.2.2 h k).2.2.2.2.2.2.1
  obtain ⟨I', a1, a2⟩ := cnt_e (k2 := 4) (k3 := 24) (N := 240) (st := h % 24 * 10) (c := c) (s := s) (tol := F 1) (V := qV F) (W := qW F (hp e h)) (I := I) (by decide) (by decide) zl4 zl24 (by omega) (by omega) hs (fun i hi => (hW.2.2.1 i hi).2.1) (fun i hi _ => hv i hi) ⟨h10, fun j hj _ => ⟨(hb j hj).1, hq.2.2.2.2.1 j hj⟩⟩ hW.bt1
  refine ⟨I', ?_, a2⟩
  unfold fX5_countRow
  rw [L10, nI_mul_n, q3]
  show Option.bind (fX6_count 4 24 s (nI (h % 24 * 10)) (F 1) I) _ = _
  rw [a1]
  rfl
/-- the reference tells voters whose values are laid -/
theorem tRow {c e : Nat} {I J : Mem} {s : Int32} {W : Nat → Int32} (hW : EW c e I 1 (J 307)) (hV : ∀ i, i < c → bt s i = true → J 315 i = W i) (hb : ∀ i, i < c → bt s i = true → bd (-10098) 10098 (W i)) :
    ∃ J', fX8_tells s J = some J' ∧ (∀ k i, ¬ (k = 306 ∧ 19 ≤ i ∧ i ≤ 21) → J' k i = J k i) ∧ J' 306 19 = xSup c (J 307) W s ∧ J' 306 20 = b2i (xHas c (J 307) W s) ∧ J' 306 21 = xLev c (J 307) W s :=
  tells_e (c := c) (V := qV (J 307)) hW.1.1.2.2.1 rfl (fun i hi => rfl) hV ⟨hW.c10, fun j hj hbt => ⟨(hW.1.2.1 j hj).1, hb j hj hbt⟩⟩
theorem scrI {I I' : Mem} (h : ∀ k i, ¬ (k = 52 ∨ k = 53 ∨ k = 54) → I' k i = I k i) : ∀ k j, ¬ qI k j → I' k j = I k j := fun k j hq => h k j (by unfold qI at hq; omega)
theorem not_not1 {buoys : Int32} : (buoys ^^^ (-1)) = (buoys ^^^ (-1 : Int32)) := rfl
theorem q_18 : eqP_18 Rel := by
  intro n I J hn hR p0 p1
  obtain ⟨c, e, ⟨h2, h10, h30, -⟩, ⟨J0, J5, J6⟩, ⟨I0, I7⟩, hW⟩ := hR.facts hn
  have t0 : (wr J 306 0 0) 306 0 = 0 := wr_s
  have K5 : (wr J 306 0 0) 307 5 = nI e := w7.trans J5
  have K6 : (wr J 306 0 0) 307 6 = nI (min e 24) := w7.trans J6
  unfold fX7_levelWithout fX8_levelWithout
  rcases inK h30 p0 with ⟨h, k, rfl⟩ | ho
  · rw [rok_i I7 h30 k, noH_i t0 K5 K6 h30 k]
    have hr : h % 24 < 24 := Nat.mod_lt _ (by omega)
    have e1 : I 16 (h % 24) = J 307 (hp e h) := (hW.2.2.2.2 h k).1
    have hq := hW.1.2.2.2 h k
    have hs : ∀ i, c ≤ i → bt (J 307 (hp e h) &&& (p1 ^^^ (-1))) i = false := and_hi hq.1
    obtain ⟨I', a1, a2, a3, a4, a5⟩ := cRow hW k hs
    obtain ⟨J1, b1, b2, b3⟩ := lays_e (J := wr J 306 0 0) h30 k K5 K6
    have f7 : J1 307 = J 307 := funext fun j => (b2 307 j (by decide)).trans w7
    have hW1 : EW c e I 1 (J1 307) := by rw [f7]; exact hW
    obtain ⟨J2, c1, c2, c3, c4, c5⟩ := tRow (s := J 307 (hp e h) &&& (p1 ^^^ (-1))) (W := qW (J 307) (hp e h)) hW1 (fun i hi _ => (b3 i (by omega)).trans w7) (fun i hi _ => hq.2.2.2.2.1 i hi)
    rw [f7] at c3 c4 c5
    have t1 : J2 306 0 = 0 := (c2 _ _ (by omega)).trans ((b2 _ _ (by decide)).trans wr_s)
    have kof : fX8_of (nI h) 0 J1 = some (J 307 (hp e h)) := (of_e (J := J1) (w := 0) ((b2 _ _ (by decide)).trans K5) ((b2 _ _ (by decide)).trans K6) h30 k (by omega)).trans (by rw [f7, Nat.add_zero])
    have hRJ : ∀ v, Rel (n + 6) I' (wr J2 306 0 v) := fun v => hR.cong (by omega) (scrI a2) (fun k j hq => by
      have g1 : ¬ (k = 306 ∧ j = 0) := fun hh => hq (by unfold qJ; omega)
      have g2 : ¬ (k = 306 ∧ 19 ≤ j ∧ j ≤ 21) := fun hh => hq (by unfold qJ; omega)
      have g3 : k ≠ 315 := fun hh => hq (by unfold qJ; omega)
      simp only [wr, if_neg g1]
      rw [c2 k j g2, b2 k j g3]
      simp only [wr, if_neg g1])
    have hRJ0 : Rel (n + 6) I' J2 := (hRJ 0).cong (Nat.le_refl _) (fun _ _ _ => rfl) (fun k j hq => by
      have g1 : ¬ (k = 306 ∧ j = 0) := fun hh => hq (by unfold qJ; omega)
      simp only [wr, if_neg g1])
    rw [ob2_some, if_pos rfl, ald_n hr (by omega), ob_s, e1, a1, ob_s, ob2_some, if_pos rfl, b1, ob_s, kof, ob_s, c1, ob_s, a4, c4, plet_d]
    cases hh : xHas c (J 307) (qW (J 307) (hp e h)) (J 307 (hp e h) &&& (p1 ^^^ (-1)))
    · refine ⟨4, 0, I', 0, wr J2 306 0 2, by rw [b2i_f, if_pos rfl], ?_, hRJ 2, Or.inr (Or.inr ⟨rfl, wr_s⟩)⟩
      rw [b2i_f, if_pos rfl, thr_12 t1, ob2_some, plet_d, if_neg (by decide)]
    · refine ⟨0, I' 52 2, I', J2 306 21, J2, by rw [b2i_t, if_neg (by decide)], ?_, hRJ0, Or.inl ⟨rfl, t1, by rw [a5, c5]⟩⟩
      rw [b2i_t, if_neg (by decide), thr_0 t1, ob2_some, plet_d, if_pos rfl]
  · refine ⟨1, 0, I, 0, wr (wr J 306 0 0) 306 0 1, ?_, ?_, wJ0 hR 1, Or.inr (Or.inl ⟨rfl, wr_s⟩)⟩
    · rw [rok_o I7 h30 ho, ob2_some, if_neg (by decide)]
    · rw [noH_o t0 K5 K6 h30 ho, ob2_some, if_neg (by decide)]
theorem need_st {c e h : Nat} {v : Int32} {F : Row} (k : kept e h) (hv : ∀ i, c ≤ i → bt v i = false) (hq : WFq c F (hp e h)) (h30 : e < 2 ^ 30) (h10 : c ≤ 10) :
    ∀ (d j n m : Nat) (a : Int32) (I J : Mem), j + d = c → d < n → d < m → EW c e I 1 F → J 307 = F → (∀ i, i < c → J 315 i = qW F (hp e h) i) → F (hp e h) = v →
    ∃ r I' J', fX7_needed_L25 v (nI (h % 24)) n (nI j) a I = some (r, I') ∧ fX8_needed_L24 (nI h) m (nI j) a J = some (r, J') ∧ (∀ k i, ¬ (k = 52 ∨ k = 53 ∨ k = 54) → I' k i = I k i) ∧ (∀ k i, ¬ (k = 306 ∧ 19 ≤ i ∧ i ≤ 21) → J' k i = J k i) := by
  intro d
  induction d with
  | zero =>
    intro j n m a I J hj hn hm hW hF hV hv0
    obtain ⟨n, rfl⟩ := fuel hn
    obtain ⟨m, rfl⟩ := fuel hm
    refine ⟨a, I, J, ?_, ?_, fun _ _ _ => rfl, fun _ _ _ => rfl⟩
    · rw [fX7_needed_L25, show I 2 0 = nI c from hW.2.1.1, if_pos (by rw [nI_leP (by omega) (by omega)]; omega)]
    · rw [fX8_needed_L24, ald_0 (by omega) (by omega), hF, hW.1.1.2.2.1, ob_s, if_pos (by rw [nI_leP (by omega) (by omega)]; omega)]
  | succ d ih =>
    intro j n m a I J hj hn hm hW hF hV hv0
    obtain ⟨n, rfl⟩ := fuel hn
    obtain ⟨m, rfl⟩ := fuel hm
    have K5 : J 307 5 = nI e := by rw [hF]; exact hW.1.1.2.2.2.1
    have K6 : J 307 6 = nI (min e 24) := by rw [hF]; exact hW.1.1.2.2.2.2.1
    have kof : fX8_of (nI h) 0 J = some v := (of_e (J := J) (w := 0) K5 K6 h30 k (by omega)).trans (by rw [hF, Nat.add_zero, hv0])
    have ncj : ¬ nI c ≤ nI j := by rw [nI_leP (by omega) (by omega)]; omega
    rw [fX7_needed_L25, show I 2 0 = nI c from hW.2.1.1, if_neg ncj, has7 (by omega), ob_s, fX8_needed_L24, ald_0 (by omega) (by omega), hF, hW.1.1.2.2.1, ob_s, if_neg ncj, kof, ob_s, has8 (by omega), ob_s, nI_1]
    cases hb : bt v j
    · rw [b2i_f, if_pos e00, if_pos e00, ob2_some, ob2_some]
      exact ih (j + 1) n m a I J (by omega) (by omega) (by omega) hW hF hV hv0
    · rw [b2i_t, if_neg n10, if_neg n10, ob_s]
      have hs : ∀ i, c ≤ i → bt (v &&& (bit1 j ^^^ (-1))) i = false := and_hi hv
      obtain ⟨I', a1, a2, a3, a4, a5⟩ := cRow hW k hs
      have hW1 : EW c e I 1 (J 307) := by rw [hF]; exact hW
      obtain ⟨J2, c1, c2, c3, c4, c5⟩ := tRow (s := v &&& (bit1 j ^^^ (-1))) (W := qW F (hp e h)) hW1 (fun i hi _ => hV i hi) (fun i hi _ => hq.2.2.2.2.1 i hi)
      rw [hF] at c4
      have hWn : EW c e I' 1 F := hW.cong (fun k j hr => a2 _ _ (by unfold rng at hr; omega)) (fun _ _ => rfl)
      have hF2 : J2 307 = F := by rw [← hF]; exact funext fun i => c2 _ _ (by omega)
      obtain ⟨r, I3, J3, r1, r2, r3, r4⟩ := ih (j + 1) n m (if xHas c F (qW F (hp e h)) (v &&& (bit1 j ^^^ (-1))) then a else a ||| bit1 j) I' J2 (by omega) (by omega) (by omega) hWn hF2 (fun i hi => (c2 _ _ (by omega)).trans (hV i hi)) hv0
      refine ⟨r, I3, J3, ?_, ?_, fun k i hk => (r3 k i hk).trans (a2 k i hk), fun k i hk => (r4 k i hk).trans (c2 k i hk)⟩
      · rw [← r1, show (1 : Int32) <<< (nI j &&& 31) = bit1 j from rfl, a1, ob_s, a4]
        cases xHas c F (qW F (hp e h)) (v &&& (bit1 j ^^^ (-1)))
        · rfl
        · rfl
      · rw [← r2, show (1 : Int32) <<< (nI j &&& 31) = bit1 j from rfl, c1, ob_s, c4, plet_d, ob2_some]
        cases xHas c F (qW F (hp e h)) (v &&& (bit1 j ^^^ (-1)))
        · rfl
        · rw [b2i_t, if_neg n10, Int32.or_zero]
          rfl
theorem q_19 : eqP_19 Rel := by
  intro n I J hn hR p0
  obtain ⟨c, e, ⟨h2, h10, h30, -⟩, ⟨J0, J5, J6⟩, ⟨I0, I7⟩, hW⟩ := hR.facts hn
  have t0 : (wr J 306 0 0) 306 0 = 0 := wr_s
  have K5 : (wr J 306 0 0) 307 5 = nI e := w7.trans J5
  have K6 : (wr J 306 0 0) 307 6 = nI (min e 24) := w7.trans J6
  unfold fX7_needed fX8_needed
  rcases inK h30 p0 with ⟨h, k, rfl⟩ | ho
  · rw [rok_i I7 h30 k, noH_i t0 K5 K6 h30 k]
    have hr : h % 24 < 24 := Nat.mod_lt _ (by omega)
    have e1 : I 16 (h % 24) = J 307 (hp e h) := (hW.2.2.2.2 h k).1
    have hq := hW.1.2.2.2 h k
    obtain ⟨J1, b1, b2, b3⟩ := lays_e (J := wr J 306 0 0) h30 k K5 K6
    have f7 : J1 307 = J 307 := funext fun j => (b2 307 j (by decide)).trans w7
    obtain ⟨r, I', J', r1, r2, r3, r4⟩ := need_st k hq.1 hq h30 h10 c 0 zF zF 0 I J1 (by omega) (zF_g (by omega)) (zF_g (by omega)) hW f7 (fun i hi => (b3 i (by omega)).trans w7) rfl
    refine ⟨0, r, I', r, J', ?_, ?_, hR.cong (by omega) (scrI r3) (fun k j hq => ?_), Or.inl ⟨rfl, (r4 _ _ (by omega)).trans ((b2 _ _ (by decide)).trans wr_s), rfl⟩⟩
    · rw [ob2_some, if_pos rfl, ald_n hr (by omega), ob_s, e1, show fX7_needed_L25 (J 307 (hp e h)) (nI (h % 24)) zF 0 0 I = _ from r1]
      rfl
    · rw [ob2_some, if_pos rfl, b1, ob_s, show fX8_needed_L24 (nI h) zF 0 0 J1 = _ from r2]
      rfl
    · have g1 : ¬ (k = 306 ∧ j = 0) := fun hh => hq (by unfold qJ; omega)
      have g2 : ¬ (k = 306 ∧ 19 ≤ j ∧ j ≤ 21) := fun hh => hq (by unfold qJ; omega)
      have g3 : k ≠ 315 := fun hh => hq (by unfold qJ; omega)
      rw [r4 k j g2, b2 k j g3]
      simp only [wr, if_neg g1]
  · refine ⟨1, 0, I, 0, wr (wr J 306 0 0) 306 0 1, ?_, ?_, wJ0 hR 1, Or.inr ⟨rfl, wr_s⟩⟩
    · rw [rok_o I7 h30 ho, ob2_some, if_neg (by decide)]
    · rw [noH_o t0 K5 K6 h30 ho, ob2_some, if_neg (by decide)]
theorem nI_nm1 {n : Nat} (h : n < 2 ^ 31) : ¬ nI n = -1 := fun h2 => by
  have := nI_toInt h
  rw [h2] at this
  have e : (-1 : Int32).toInt = -1 := rfl
  omega
theorem ext_st {c e : Nat} {F : Row} {I J : Mem} {p : Int32} (hW : EW c e I 1 F) (hF : J 307 = F) (h30 : e < 2 ^ 30) :
    ∀ (d j n m : Nat) (a b : Int32), e ≤ j + 24 → j + d = e → d < n → d < m → (a = -1 ∨ ∃ x, kept e x ∧ a = nI x ∧ b = F (hp e x + 5)) →
    ∃ r, fX7_extreme_L13 p n (nI j) b a I = some r ∧ fX8_extreme_L12 p m (nI j) a J = some r := by
  have I7 : I 1 7 = nI e := hW.2.1.2.2.2.2.2.1.trans hW.1.1.2.2.2.1
  have K5 : J 307 5 = nI e := by rw [hF]; exact hW.1.1.2.2.2.1
  have K6 : J 307 6 = nI (min e 24) := by rw [hF]; exact hW.1.1.2.2.2.2.1
  intro d
  induction d with
  | zero =>
    intro j n m a b h24 hj hn hm hab
    obtain ⟨n, rfl⟩ := fuel hn
    obtain ⟨m, rfl⟩ := fuel hm
    refine ⟨a, ?_, ?_⟩
    · rw [fX7_extreme_L13, I7, if_pos (by rw [nI_leP (by omega) (by omega)]; omega)]
    · rw [fX8_extreme_L12, L5, ald_n (by omega) (by omega), K5, ob_s, if_pos (by rw [nI_leP (by omega) (by omega)]; omega)]
  | succ d ih =>
    intro j n m a b h24 hj hn hm hab
    obtain ⟨n, rfl⟩ := fuel hn
    obtain ⟨m, rfl⟩ := fuel hm
    have k : kept e j := by unfold kept; omega
    have hr : j % 24 < 24 := Nat.mod_lt _ (by omega)
    have e3 : I 18 (j % 24) = F (hp e j + 2) := (hW.2.2.2.2 j k).2.2.1
    have e4 : I 19 (j % 24) = F (hp e j + 5) := (hW.2.2.2.2 j k).2.2.2.1
    have lv := (hW.1.2.2.2 j k).2.2.1
    have o2 : fX8_of (nI j) 2 J = some (F (hp e j + 2)) := (of_e (w := 2) K5 K6 h30 k (by omega)).trans (by rw [hF])
    have o5 : fX8_of (nI j) 5 J = some (F (hp e j + 5)) := (of_e (w := 5) K5 K6 h30 k (by omega)).trans (by rw [hF])
    have nej : ¬ nI e ≤ nI j := by rw [nI_leP (by omega) (by omega)]; omega
    rw [fX7_extreme_L13, I7, if_neg nej, row_e (by omega), ob_s, ald_n hr (by omega), ob_s, e3, ald_n hr (by omega), e4, fX8_extreme_L12, L5, ald_n (by omega) (by omega), K5, o2, show nI 5 = (5 : Int32) from rfl, o5, nI_1]
    simp only [ob_s]
    rw [if_neg nej]
    rcases lv with lv | lv
    · rw [lv, if_neg n01, if_pos e00, ob2_some, ob_s]
      exact ih (j + 1) n m a b (by omega) (by omega) (by omega) (by omega) hab
    · rw [lv, if_pos e11, if_neg n10]
      have good : ∃ r, fX7_extreme_L13 p n (nI (j + 1)) (F (hp e j + 5)) (nI j) I = some r ∧ fX8_extreme_L12 p m (nI (j + 1)) (nI j) J = some r := ih (j + 1) n m (nI j) (F (hp e j + 5)) (by omega) (by omega) (by omega) (by omega) (Or.inr ⟨j, k, rfl, rfl⟩)
      have keep := ih (j + 1) n m a b (by omega) (by omega) (by omega) (by omega) hab
      rcases hab with ha | ⟨x, kx, ha, hb⟩
      · rw [if_pos ha, if_pos ha, ob2_some, ob_s, plet_d, if_neg n10, ob_s]
        exact good
      · have na : ¬ a = -1 := by rw [ha]; unfold kept at kx; exact nI_nm1 (by omega)
        have o5x : fX8_of a 5 J = some b := by rw [ha, hb]; exact (of_e (w := 5) K5 K6 h30 kx (by omega)).trans (by rw [hF])
        rw [if_neg na, if_neg na, o5x]
        by_cases hp0 : p = 0
        · rw [if_pos hp0, if_pos hp0]
          by_cases hl : F (hp e j + 5) ≤ b
          · rw [if_pos hl, ob2_some, ob_s, if_pos hl, ob_s, plet_d, if_pos e00, ob_s]
            exact keep
          · rw [if_neg hl, ob2_some, ob_s, if_neg hl, ob_s, plet_d, if_neg n10, ob_s]
            exact good
        · rw [if_neg hp0, if_neg hp0]
          by_cases hl : b ≤ F (hp e j + 5)
          · rw [if_pos hl, ob2_some, ob_s, if_pos hl, ob_s, plet_d, if_pos e00, ob_s]
            exact keep
          · rw [if_neg hl, ob2_some, ob_s, if_neg hl, ob_s, plet_d, if_neg n10, ob_s]
            exact good
theorem q_14 : eqP_14 Rel := by
  intro n I J hn hR p0 _
  obtain ⟨c, e, ⟨h2, h10, h30, -⟩, ⟨J0, J5, J6⟩, ⟨I0, I7⟩, hW⟩ := hR.facts hn
  have K5 : (wr J 306 0 0) 307 5 = nI e := w7.trans J5
  have K6 : (wr J 306 0 0) 307 6 = nI (min e 24) := w7.trans J6
  have K7 : (wr J 306 0 0) 307 = J 307 := funext fun j => w7
  obtain ⟨r, r1, r2⟩ := ext_st (p := p0) hW K7 h30 (min e 24) (e - 24) zF zF (-1) 0 (by omega) (by omega) (zF_g (by omega)) (zF_g (by omega)) (Or.inl rfl)
  refine ⟨r, wr J 306 0 0, ?_, ?_, Rel.J0 hR 0⟩
  · unfold fX7_extreme
    rw [fk_e (b := 1) I7 h30, ob_s, r1]
    rfl
  · unfold fX8_extreme
    rw [fh_e K5 K6 h30, ob_s, r2]
    rfl
theorem ah_st {c e : Nat} {F : Row} {I J : Mem} {p : Int32} (hW : EW c e I 1 F) (hF : J 307 = F) (h30 : e < 2 ^ 30) :
    ∀ (d m n n' : Nat), m = e - 24 + d → m ≤ e → d < n → d < n' →
    (∃ x, kept e x ∧ fX7_rowWithLevelAhead_L4 n (nI m - 1) I = some (1, nI (x % 24)) ∧ fX8_tide_L41 p n' (nI m - 1) J = some (nI x)) ∨ (fX7_rowWithLevelAhead_L4 n (nI m - 1) I = some (0, 0) ∧ fX8_tide_L41 p n' (nI m - 1) J = some (nI (e - 24) - 1)) := by
  have I7 : I 1 7 = nI e := hW.2.1.2.2.2.2.2.1.trans hW.1.1.2.2.2.1
  have K5 : J 307 5 = nI e := by rw [hF]; exact hW.1.1.2.2.2.1
  have K6 : J 307 6 = nI (min e 24) := by rw [hF]; exact hW.1.1.2.2.2.2.1
  intro d
  induction d with
  | zero =>
    intro m n n' hm he hn hn'
    obtain ⟨n, rfl⟩ := fuel hn
    obtain ⟨n', rfl⟩ := fuel hn'
    have hlt : nI (e - 24) - 1 < nI (e - 24) := by
      have t1 : (1 : Int32).toInt = 1 := rfl
      have t2 := nI_toInt (n := e - 24) (by omega)
      rw [Int32.lt_iff_toInt_lt, toInt_sub (by omega) (by omega)]
      omega
    rw [Nat.add_zero] at hm
    subst hm
    refine Or.inr ⟨?_, ?_⟩
    · rw [fX7_rowWithLevelAhead_L4, fk_e (b := 1) I7 h30, ob_s, if_pos hlt]
    · rw [fX8_tide_L41, fh_e K5 K6 h30, ob_s, if_pos hlt]
  | succ d ih =>
    intro m n n' hm he hn hn'
    obtain ⟨n, rfl⟩ := fuel hn
    obtain ⟨n', rfl⟩ := fuel hn'
    have k : kept e (m - 1) := by unfold kept; omega
    have hr : (m - 1) % 24 < 24 := Nat.mod_lt _ (by omega)
    have e3 : I 18 ((m - 1) % 24) = F (hp e (m - 1) + 2) := (hW.2.2.2.2 _ k).2.2.1
    have lv := (hW.1.2.2.2 _ k).2.2.1
    have o2 : fX8_of (nI (m - 1)) 2 J = some (F (hp e (m - 1) + 2)) := (of_e (w := 2) K5 K6 h30 k (by omega)).trans (by rw [hF])
    have hnl : ¬ nI (m - 1) < nI (e - 24) := by rw [nI_ltP (by omega) (by omega)]; omega
    rw [fX7_rowWithLevelAhead_L4, fk_e (b := 1) I7 h30, ob_s, nI_sub1 (by omega) (by omega), if_neg hnl, row_e (by omega), ob_s, ald_n hr (by omega), ob_s, e3, fX8_tide_L41, fh_e K5 K6 h30, ob_s, if_neg hnl, o2, ob_s]
    rcases lv with lv | lv
    · rw [lv, if_neg n01, if_pos e00]
      have em : nI (m - 1) + (-1) = nI (m - 1) - 1 := by
        rw [Int32.sub_eq_add_neg]
      rw [em]
      exact ih (m - 1) n n' (by omega) (by omega) (by omega) (by omega)
    · rw [lv, if_pos e11, if_neg n10]
      exact Or.inl ⟨m - 1, k, rfl, rfl⟩
theorem q_13 : eqP_13 Rel := by
  intro n I J hn hR p0
  obtain ⟨c, e, ⟨h2, h10, h30, -⟩, ⟨J0, J5, J6⟩, ⟨I0, I7⟩, hW⟩ := hR.facts hn
  have t0 : (wr J 306 0 0) 306 0 = 0 := wr_s
  have K5 : (wr J 306 0 0) 307 5 = nI e := w7.trans J5
  have K6 : (wr J 306 0 0) 307 6 = nI (min e 24) := w7.trans J6
  have K7 : (wr J 306 0 0) 307 = J 307 := funext fun j => w7
  unfold fX7_tide fX8_tide
  rcases inK h30 p0 with ⟨h, k, rfl⟩ | ho
  · have hr : h % 24 < 24 := Nat.mod_lt _ (by omega)
    have kk := k
    unfold kept at kk
    have e3 : I 18 (h % 24) = J 307 (hp e h + 2) := (hW.2.2.2.2 h k).2.2.1
    have e4 : I 19 (h % 24) = J 307 (hp e h + 5) := (hW.2.2.2.2 h k).2.2.2.1
    have hq := hW.1.2.2.2 h k
    have o2 : fX8_of (nI h) 2 (wr J 306 0 0) = some (J 307 (hp e h + 2)) := (of_e (w := 2) K5 K6 h30 k (by omega)).trans (by rw [w7])
    have o5 : fX8_of (nI h) 5 (wr J 306 0 0) = some (J 307 (hp e h + 5)) := (of_e (w := 5) K5 K6 h30 k (by omega)).trans (by rw [w7])
    rw [rok_i I7 h30 k, noH_i t0 K5 K6 h30 k, ob2_some, if_pos rfl, ob2_some, if_pos rfl, o2, ob_s, plet_d]
    have ah := ah_st (p := nI h) hW K7 h30 (h - (e - 24)) h zF zF (by omega) (by omega) (zF_g (by omega)) (zF_g (by omega))
    unfold fX7_rowWithLevelAhead
    by_cases hl : J 307 (hp e h + 2) = 0
    · refine ⟨4, 0, 0, wr (wr J 306 0 0) 306 0 2, ?_, ?_, wJ0 hR 2, Or.inr (Or.inr ⟨rfl, wr_s⟩)⟩
      · rcases ah with ⟨x, kx, a1, a2⟩ | ⟨a1, a2⟩
        · rw [a1, ob2_some, if_pos rfl, ob_s, ald_n hr (by omega), ob_s, e3, if_pos hl]
        · rw [a1, ob2_some, if_neg (by decide), ob_s, ald_n hr (by omega), ob_s, e3, if_pos hl]
      · rw [if_pos hl, thr_12 t0, ob2_some, if_neg (by decide)]
    · rw [if_neg hl, thr_0 t0, ob2_some, if_pos rfl]
      rcases ah with ⟨x, kx, a1, a2⟩ | ⟨a1, a2⟩
      · have hrx : x % 24 < 24 := Nat.mod_lt _ (by omega)
        have kkx := kx
        unfold kept at kkx
        have f4 : I 19 (x % 24) = J 307 (hp e x + 5) := (hW.2.2.2.2 x kx).2.2.2.1
        have hqx := hW.1.2.2.2 x kx
        have o5x : fX8_of (nI x) 5 (wr J 306 0 0) = some (J 307 (hp e x + 5)) := (of_e (w := 5) K5 K6 h30 kx (by omega)).trans (by rw [w7])
        rw [a1, ob2_some, if_pos rfl, ob_s, ald_n hr (by omega), ob_s, e3, if_neg hl, if_neg (nI_nm1 (by omega)), ald_n hr (by omega), ob_s, e4, ald_n hrx (by omega), ob_s, f4, a2, ob_s, fh_e K5 K6 h30, ob_s, plet_d, plet_d, if_pos (show nI (e - 24) ≤ nI x by rw [nI_leP (by omega) (by omega)]; omega), thr_0 t0, ob2_some, if_pos e00, o5, ob_s, o5x, ob_s, plet_d]
        have b1 := hq.2.2.2.1
        have b2 := hqx.2.2.2.1
        generalize J 307 (hp e h + 5) = u at *
        generalize J 307 (hp e x + 5) = v at *
        unfold bd at b1 b2
        have z : (0 : Int32).toInt = 0 := rfl
        have es := toInt_sub (a := u) (b := v) (by omega) (by omega)
        have d1 : (u - v ≤ 0) = (u ≤ v) := by rw [Int32.le_iff_toInt_le, Int32.le_iff_toInt_le, es, z]; exact propext (by omega)
        have d2 : (0 ≤ u - v) = (v ≤ u) := by rw [Int32.le_iff_toInt_le, Int32.le_iff_toInt_le, es, z]; exact propext (by omega)
        refine ⟨0, _, _, wr J 306 0 0, rfl, rfl, Rel.J0 hR 0, Or.inl ⟨rfl, wr_s, ?_⟩⟩
        simp only [d1, d2]
      · refine ⟨4, 0, 0, wr (wr J 306 0 0) 306 0 2, ?_, ?_, wJ0 hR 2, Or.inr (Or.inr ⟨rfl, wr_s⟩)⟩
        · rw [a1, ob2_some, if_neg (by decide), ob_s, ald_n hr (by omega), ob_s, e3, if_neg hl, if_pos rfl]
        · have hnl : ¬ nI (e - 24) ≤ nI (e - 24) - 1 := by
            have t1 : (1 : Int32).toInt = 1 := rfl
            have t2 := nI_toInt (n := e - 24) (by omega)
            rw [Int32.le_iff_toInt_le, toInt_sub (by omega) (by omega)]
            omega
          rw [a2, ob_s, fh_e K5 K6 h30, ob_s, plet_d, if_neg hnl, thr_12 t0, ob2_some, if_neg (by decide)]
  · refine ⟨1, 0, 0, wr (wr J 306 0 0) 306 0 1, ?_, ?_, wJ0 hR 1, Or.inr (Or.inl ⟨rfl, wr_s⟩)⟩
    · rw [rok_o I7 h30 ho, ob2_some, if_neg (by decide)]
    · rw [noH_o t0 K5 K6 h30 ho, ob2_some, if_neg (by decide)]
