/-! THE END OF AN HOUR: LEVEL BOUNDS, STRIKES, AGREEMENT, DRAGGED ONES -/
theorem sum_bd {V W : Nat → Int32} {p : Nat → Bool} : ∀ d, d ≤ 10 → (∀ j, j < d → p j = true → bd 1 9 (V j) ∧ bd (-10098) 10098 (W j)) → 0 ≤ (vsum V p 0 d 0).toInt ∧ (vsum V p 0 d 0).toInt ≤ 9 * d ∧ -(10098 * (vsum V p 0 d 0).toInt) ≤ (vsum (fun j => V j * W j) p 0 d 0).toInt ∧ (vsum (fun j => V j * W j) p 0 d 0).toInt ≤ 10098 * (vsum V p 0 d 0).toInt := by
  intro d
  induction d with
  | zero => intro _ _; have : (vsum V p 0 0 0).toInt = 0 := rfl; have h2 : (vsum (fun j => V j * W j) p 0 0 0).toInt = 0 := rfl; omega
  | succ d ih =>
    intro hd h
    obtain ⟨a1, a2, a3, a4⟩ := ih (by omega) (fun j hj => h j (by omega))
    rw [vsum_succ, vsum_succ]
    cases hp : p d
    · simp only [Bool.false_eq_true, if_false]
      omega
    · obtain ⟨h3, h4⟩ := h d (by omega) hp
      unfold bd at h3 h4
      simp only [if_true]
      have p1 : (V d).toInt * (W d).toInt ≤ (V d).toInt * 10098 := Int.mul_le_mul_of_nonneg_left (by omega) (by omega)
      have p2 : (V d).toInt * (-10098) ≤ (V d).toInt * (W d).toInt := Int.mul_le_mul_of_nonneg_left (by omega) (by omega)
      have em : (V d * W d).toInt = (V d).toInt * (W d).toInt := toInt_mul (by omega) (by omega)
      rw [toInt_add (by omega) (by omega), toInt_add (by rw [em]; omega) (by rw [em]; omega), em]
      omega
theorem fdv_bd {x y : Int32} {M : Int} (hM : 0 ≤ M) (hM2 : M < 100000) (hy : 0 < y.toInt) (h1 : -(M * y.toInt) ≤ x.toInt) (h2 : x.toInt ≤ M * y.toInt) : bd (-M) M (fdv x y) := by
  obtain ⟨e1, e2, e3⟩ := dv_f (x := x) hy
  have h5 := Int.tmod_add_tdiv_mul x.toInt y.toInt
  have lt := Int.tmod_lt_of_pos x.toInt hy
  have k : (-M ≤ x.toInt.tdiv y.toInt ∧ x.toInt.tdiv y.toInt ≤ M) ∧ (x.toInt.tmod y.toInt < 0 → -M < x.toInt.tdiv y.toInt) := by
    have gt : -y.toInt < x.toInt.tmod y.toInt := by
      rcases Int.le_total 0 x.toInt with h | h
      · have := Int.tmod_nonneg y.toInt h; omega
      · have h6 := Int.tmod_lt_of_pos (-x.toInt) hy
        rw [Int.neg_tmod] at h6
        omega
    generalize x.toInt.tdiv y.toInt = q at *
    generalize x.toInt.tmod y.toInt = r at *
    generalize y.toInt = Y at *
    have n1 : ∀ a b : Int, a + 1 ≤ b → a * Y + Y ≤ b * Y := fun a b h => by
      have := Int.mul_le_mul_of_nonneg_right h (show 0 ≤ Y by omega)
      rw [Int.add_mul, Int.one_mul] at this
      exact this
    refine ⟨⟨?_, ?_⟩, fun hr => ?_⟩
    · by_cases h : -M ≤ q
      · exact h
      · have := n1 q (-M) (by omega)
        rw [Int.neg_mul] at this
        omega
    · by_cases h : q ≤ M
      · exact h
      · have := n1 M q (by omega)
        omega
    · by_cases h : -M < q
      · exact h
      · have : q ≤ -M := by omega
        have h7 := Int.mul_le_mul_of_nonneg_right this (show 0 ≤ Y by omega)
        rw [Int.neg_mul] at h7
        omega
  unfold fdv bd
  by_cases hc : 0 ≤ x - x / y * y
  · rw [if_pos hc, e1]; exact k.1
  · rw [if_neg hc, toInt_sub (by rw [e1, toInt_1]; omega) (by rw [e1, toInt_1]; omega), e1, toInt_1]
    rw [toInt_le, e3, toInt_0] at hc
    have := k.2 (by omega)
    omega
theorem lev_bd {c : Nat} {s tol m : Int32} {V W : Nat → Int32} (hok : tOk c s V W) : bd (-10098) 10098 (tLev c s V W tol m) := by
  unfold tLev
  cases h : tHas c s V W tol m
  · simp only [Bool.false_eq_true, if_false]
    unfold bd
    decide
  · simp only [if_true]
    have hp := spt_pos hok h
    obtain ⟨a1, a2, a3, a4⟩ := sum_bd (V := V) (W := W) (p := tIn s W tol m) c hok.1 (fun j hj hb => hok.2 j hj (tIn_bt hb))
    exact fdv_bd (by omega) (by omega) hp a3 a4
theorem sup_sub {c : Nat} {s tol m : Int32} {W : Nat → Int32} (hc : c ≤ 10) (i : Nat) (h : bt (tSup c s W tol m) i = true) : bt s i = true ∧ i < c := by
  by_cases hi : i < c
  · rw [sup_in hi hc] at h
    exact ⟨tIn_bt h, hi⟩
  · rw [show bt (tSup c s W tol m) i = false from bsl_hi (by omega) (by omega)] at h
    cases h
/-- the class tells the level of a row -/
theorem telL {r c : Nat} {s tol : Int32} {V W : Nat → Int32} {I : Mem} (hr : r < 24) (h16 : I 16 r = s) (hs : ∀ i, c ≤ i → bt s i = false) (hV : ∀ i, i < c → I 4 i = V i) (hW : ∀ i, i < c → bt s i = true → I 24 (r * 10 + i) = W i) (hok : tOk c s V W) (ht : bd 0 999 tol) (h3 : I 1 3 = tol) :
    ∃ I', fX5_tellLevel 1 (nI r) I = some I' ∧ (∀ k i, ¬ (52 ≤ k ∧ k ≤ 54) → ¬ ((k = 17 ∨ k = 18 ∨ k = 19) ∧ i = r) → I' k i = I k i) ∧ I' 17 r = tSup c s W tol (tMid c s V W 100000) ∧ I' 18 r = b2i (tHas c s V W tol (tMid c s V W 100000)) ∧ I' 19 r = tLev c s V W tol (tMid c s V W 100000) := by
  have hc := hok.1
  obtain ⟨I1, a1, a2, a3, a4, a5⟩ := cnt_e (k2 := 4) (k3 := 24) (N := 240) (st := r * 10) (c := c) (s := s) (tol := tol) (V := V) (W := W) (I := I) (by decide) (by decide) zl4 zl24 (by omega) (by omega) hs hV hW hok ht
  have e1 : ∀ v, wr I1 17 r v 52 1 = I1 52 1 := fun v => wr_n (by omega)
  have e2 : ∀ v w, wr (wr I1 17 r v) 18 r w 52 2 = I1 52 2 := fun v w => by rw [wr_n (by omega), wr_n (by omega)]
  have eb : ∀ b, (if b2i b = 0 then (0 : Int32) else 1) = b2i b := fun b => by cases b <;> rfl
  refine ⟨wr (wr (wr I1 17 r (I1 52 0)) 18 r (I1 52 1)) 19 r (I1 52 2), ?_, fun k i h1 h2 => ?_, ?_, ?_, ?_⟩
  · unfold fX5_tellLevel
    rw [show ald I (1 + 15) 24 (nI r) = some (I 16 r) from ald_n hr (by omega), ob_s, h16, L10, nI_mul_n, h3, show fX6_count (1 + 3) (1 + 23) s (nI (r * 10)) tol I = _ from a1, ob_s, ast_n hr (by omega), ob_s, e1, a4, eb, plet_d, ast_n hr (by omega), ob_s, e2, ast_n hr (by omega)]
    rfl
  · rw [wr_n (by omega), wr_n (by omega), wr_n (by omega), a2 k i (by omega)]
  · rw [wr_n (by omega), wr_n (by omega), wr_s, a3]
  · rw [wr_n (by omega), wr_s, a4]
  · rw [wr_s, a5]
/-- what concerns buoys and numbers alone -/
def EWf (c e : Nat) (I : Mem) (F : Row) : Prop := WFn c e F ∧ WFb c F ∧ EQn c I 1 F ∧ EQb c I 1 F
theorem ewf_upd {c e j : Nat} {I I' : Mem} {F F' : Row} (h : EWf c e I F) (hj : j < c) (e7 : I' 7 j = F' (52 + j)) (t7 : bd 0 2 (F' (52 + j))) (e8 : I' 8 j = F' (62 + j)) (e9 : I' 9 j = F' (72 + j)) (e10 : I' 10 j = F' (82 + j))
    (hI : ∀ k i, ¬ (7 ≤ k ∧ k ≤ 10 ∧ i = j) → I' k i = I k i) (hF : ∀ i, ¬ (i = 52 + j ∨ i = 62 + j ∨ i = 72 + j ∨ i = 82 + j) → F' i = F i) : EWf c e I' F' := by
  obtain ⟨w1, w2, q1, q2⟩ := h
  have hc : c ≤ 10 := w1.2.1
  refine ⟨w1.cg (fun i h1 h2 => hF i (by omega)), fun x hx => ?_, q1.cg hc (fun i h1 h2 => hI _ _ (by omega)) (hI _ _ (by omega)) (hI _ _ (by omega)) (hI _ _ (by omega)) (fun i h1 h2 h3 => hF i (by omega)) (fun i h1 h2 => hF i (by omega)) (fun i h1 h2 => hF i (by omega)), fun x hx => ?_⟩
  · obtain ⟨x1, x2, x3, x4, x5, x6⟩ := w2 x hx
    rw [hF (22 + x) (by omega), hF (32 + x) (by omega), hF (42 + x) (by omega), hF (92 + x) (by omega), hF (102 + x) (by omega)]
    refine ⟨x1, x2, x3, ?_, x5, x6⟩
    by_cases hxj : x = j
    · rw [hxj]; exact t7
    · rw [hF (52 + x) (by omega)]; exact x4
  · obtain ⟨y1, y2, y3, y4, y5, y6, y7, y8, y9⟩ := q2 x hx
    rw [hI (1 + 2) x (by omega), hI (1 + 3) x (by omega), hI (1 + 4) x (by omega), hI (1 + 5) x (by omega), hI (1 + 10) x (by omega), hF (12 + x) (by omega), hF (22 + x) (by omega), hF (32 + x) (by omega), hF (42 + x) (by omega), hF (102 + x) (by omega)]
    by_cases hxj : x = j
    · subst hxj
      exact ⟨y1, y2, y3, y4, e7, e8, e9, e10, y9⟩
    · rw [hI (1 + 6) x (by omega), hI (1 + 7) x (by omega), hI (1 + 8) x (by omega), hI (1 + 9) x (by omega), hF (52 + x) (by omega), hF (62 + x) (by omega), hF (72 + x) (by omega), hF (82 + x) (by omega)]
      exact ⟨y1, y2, y3, y4, y5, y6, y7, y8, y9⟩
theorem str_L {c e r : Nat} {S V : Int32} (hr : r < 24) (hsub : ∀ i, bt S i = true → bt V i = true) : ∀ (d j n m : Nat) (I J : Mem), j + d = c → d < n → d < m → EWf c e I (J 307) → I 17 r = S → I 16 r = V → J 306 19 = S →
    ∃ I' J', fX5_countStrikes_L2 1 (nI r) n (nI j) I = some I' ∧ fX8_strikes_L2 V m (nI j) J = some J' ∧ EWf c e I' (J' 307) ∧ (∀ k i, ¬ (k = 8 ∨ k = 10) → I' k i = I k i) ∧ (∀ k i, ¬ (k = 307 ∧ ((62 ≤ i ∧ i < 72) ∨ (82 ≤ i ∧ i < 92))) → J' k i = J k i) := by
  intro d
  induction d with
  | zero =>
    intro j n m I J hj hn hm hW hS hV hJ
    have h10 : c ≤ 10 := hW.1.2.1
    obtain ⟨n, rfl⟩ := fuel hn
    obtain ⟨m, rfl⟩ := fuel hm
    refine ⟨I, J, ?_, ?_, hW, fun _ _ _ => rfl, fun _ _ _ => rfl⟩
    · rw [fX5_countStrikes_L2, show I (1 + 1) 0 = nI c from hW.2.2.1.1, if_pos (by rw [nI_leP (by omega) (by omega)]; omega)]
    · rw [fX8_strikes_L2, ald_0 (by omega) (by omega), hW.1.2.2.1, ob_s, if_pos (by rw [nI_leP (by omega) (by omega)]; omega)]
  | succ d ih =>
    intro j n m I J hj hn hm hW hS hV hJ
    have h10 : c ≤ 10 := hW.1.2.1
    obtain ⟨n, rfl⟩ := fuel hn
    obtain ⟨m, rfl⟩ := fuel hm
    have ncj : ¬ nI c ≤ nI j := by rw [nI_leP (by omega) (by omega)]; omega
    obtain ⟨y1, y2, y3, y4, y5, y6, y7, y8, y9⟩ := hW.2.2.2 j (by omega)
    have y5 : I 7 j = J 307 (52 + j) := y5
    have y6 : I 8 j = J 307 (62 + j) := y6
    have y7 : I 9 j = J 307 (72 + j) := y7
    have y8 : I 10 j = J 307 (82 + j) := y8
    have q7 : I 1 7 = J 307 5 := hW.2.2.1.2.2.2.2.2.1
    have t2 := (hW.2.1 j (by omega)).2.2.2.1
    have next : ∀ v w : Int32, ∃ I' J', fX5_countStrikes_L2 1 (nI r) n (nI (j + 1)) (wr (wr I 8 j v) 10 j w) = some I' ∧ fX8_strikes_L2 V m (nI (j + 1)) (wr (wr J 307 (62 + j) v) 307 (82 + j) w) = some J' ∧ EWf c e I' (J' 307) ∧ (∀ k i, ¬ (k = 8 ∨ k = 10) → I' k i = I k i) ∧ (∀ k i, ¬ (k = 307 ∧ ((62 ≤ i ∧ i < 72) ∨ (82 ≤ i ∧ i < 92))) → J' k i = J k i) := fun v w => by
      have hW2 : EWf c e (wr (wr I 8 j v) 10 j w) (wr (wr J 307 (62 + j) v) 307 (82 + j) w 307) := by
        refine ewf_upd hW (j := j) (by omega) ?_ ?_ ?_ ?_ ?_ (fun k i h => ?_) (fun i h => ?_)
        all_goals simp (disch := omega) only [wr_s, wr_n]
        · exact y5
        · exact t2
        · exact y7
      obtain ⟨I', J', a1, a2, a3, a4, a5⟩ := ih (j + 1) n m (wr (wr I 8 j v) 10 j w) (wr (wr J 307 (62 + j) v) 307 (82 + j) w) (by omega) (by omega) (by omega) hW2 (by simp (disch := omega) only [wr_n]; exact hS) (by simp (disch := omega) only [wr_n]; exact hV) (by simp (disch := omega) only [wr_n]; exact hJ)
      exact ⟨I', J', a1, a2, a3, fun k i h => (a4 k i h).trans (by simp (disch := omega) only [wr_n]), fun k i h => (a5 k i h).trans (by simp (disch := omega) only [wr_n])⟩
    have swp : ∀ (M : Mem) (x y z w : Nat) (a b : Int32), x ≠ y → wr (wr M x z a) y w b = wr (wr M y w b) x z a := fun M x y z w a b h => by
      funext k i
      unfold wr
      by_cases h1 : k = y ∧ i = w
      · rw [if_pos h1, if_pos h1, if_neg (by omega)]
      · rw [if_neg h1, if_neg h1]
    have swq : ∀ (M : Mem) (x z w : Nat) (a b : Int32), z ≠ w → wr (wr M x z a) x w b = wr (wr M x w b) x z a := fun M x z w a b h => by
      funext k i
      unfold wr
      by_cases h1 : k = x ∧ i = w
      · rw [if_pos h1, if_pos h1, if_neg (by omega)]
      · rw [if_neg h1, if_neg h1]
    rw [fX5_countStrikes_L2, show I (1 + 1) 0 = nI c from hW.2.2.1.1, if_neg ncj, show ald I (1 + 16) 24 (nI r) = some S from (ald_n hr (by omega)).trans (by rw [show I (1 + 16) r = S from hS]), ob_s, has7 (by omega), show ald I (1 + 15) 24 (nI r) = some V from (ald_n hr (by omega)).trans (by rw [show I (1 + 15) r = V from hV]), ob_s, ob_s, has7 (by omega), ob_s, fX8_strikes_L2, ald_0 (by omega) (by omega), hW.1.2.2.1, has8 (by omega), hJ, has8 (by omega), L62, L82, L5, nI_add, nI_add, nI_1]
    simp only [ob_s]
    rw [if_neg ncj]
    cases hs : bt S j
    · rw [b2i_f, if_pos e00]
      cases hv : bt V j
      · rw [b2i_f, if_pos e00, if_pos e00, ob_s, ob_s]
        exact ih (j + 1) n m I J (by omega) (by omega) (by omega) hW hS hV hJ
      · rw [b2i_t, if_neg n10, if_neg n10, if_pos e00]
        rw [show ald I (1 + 7) 10 (nI j) = some (J 307 (62 + j)) from (ald_n (by omega) (by omega)).trans (by rw [show I (1 + 7) j = _ from y6]), ald_n (by omega) (by omega), ald_n (by omega) (by omega), ald_n (by omega) (by omega)]
        simp only [ob_s]
        by_cases h0 : J 307 (62 + j) = 0
        · obtain ⟨I', J', n1, n2, n3⟩ := next (0 + 1) (J 307 5)
          refine ⟨I', J', ?_, ?_, n3⟩
          · rw [← n1, if_pos h0, ast_n (by omega) (by omega), ob_s, ob_s, ald_n (by omega) (by omega), ob_s, ast_n (by omega) (by omega), ob_s, ob_s, wr_n (by omega), show I (1 + 7) j = 0 from y6.trans h0, q7, swp _ (1 + 9) (1 + 7) j j _ _ (by omega)]
          · rw [← n2, if_pos h0, ob_s, ast_n (by omega) (by omega), ob_s, ald_n (by omega) (by omega), ob_s, ast_n (by omega) (by omega), ob_s, ob_s, wr_n (by omega), h0, swq _ 307 (82 + j) (62 + j) _ _ (by omega)]
        · obtain ⟨I', J', n1, n2, n3⟩ := next (J 307 (62 + j) + 1) (J 307 (82 + j))
          have same : wr (wr I 8 j (J 307 (62 + j) + 1)) 10 j (J 307 (82 + j)) = wr I 8 j (J 307 (62 + j) + 1) := by
            funext k i
            by_cases h1 : k = 10 ∧ i = j
            · rw [h1.1, h1.2, wr_s, wr_n (by omega), y8]
            · rw [wr_n h1]
          refine ⟨I', J', ?_, ?_, n3⟩
          · rw [← n1, same, if_neg h0, ob_s, ald_n (by omega) (by omega), ob_s, ast_n (by omega) (by omega), ob_s, ob_s, show I (1 + 7) j = _ from y6]
          · rw [← n2, if_neg h0, ob_s, ast_n (by omega) (by omega), ob_s, ald_n (by omega) (by omega), ob_s, ast_n (by omega) (by omega), ob_s, ob_s, wr_n (by omega), swq _ 307 (82 + j) (62 + j) _ _ (by omega)]
    · rw [hsub j hs, b2i_t, if_neg n10, if_neg n10, if_neg n10]
      obtain ⟨I', J', n1, n2, n3⟩ := next 0 (-1)
      refine ⟨I', J', ?_, ?_, n3⟩
      · rw [← n1, ast_n (by omega) (by omega), ob_s, ast_n (by omega) (by omega), ob_s, ob_s]
      · rw [← n2, ast_n (by omega) (by omega), ob_s, ast_n (by omega) (by omega), ob_s, ob_s]
theorem agr_L {c e r : Nat} {A lev : Int32} {vv : Nat → Int32} (hr : r < 24) (hv : ∀ j, j < c → bd (-10098) 10098 (vv j)) (hl : bd (-10098) 10098 lev) : ∀ (d j n m : Nat) (I J : Mem), j + d = c → d < n → d < m → EWf c e I (J 307) → I 19 r = lev → J 306 21 = lev → (∀ j, j < c → I 24 (r * 10 + j) = vv j ∧ J 315 j = vv j) →
    ∃ I' J', fX5_countAgreed_L22 1 A (nI r) n (nI j) I = some I' ∧ fX8_agrees_L2 A m (nI j) J = some J' ∧ EWf c e I' (J' 307) ∧ (∀ k i, ¬ (k = 9) → I' k i = I k i) ∧ (∀ k i, ¬ (k = 307 ∧ 72 ≤ i ∧ i < 82) → J' k i = J k i) := by
  intro d
  induction d with
  | zero =>
    intro j n m I J hj hn hm hW hI hJ hVV
    have h10 : c ≤ 10 := hW.1.2.1
    obtain ⟨n, rfl⟩ := fuel hn
    obtain ⟨m, rfl⟩ := fuel hm
    refine ⟨I, J, ?_, ?_, hW, fun _ _ _ => rfl, fun _ _ _ => rfl⟩
    · rw [fX5_countAgreed_L22, show I (1 + 1) 0 = nI c from hW.2.2.1.1, if_pos (by rw [nI_leP (by omega) (by omega)]; omega)]
    · rw [fX8_agrees_L2, ald_0 (by omega) (by omega), hW.1.2.2.1, ob_s, if_pos (by rw [nI_leP (by omega) (by omega)]; omega)]
  | succ d ih =>
    intro j n m I J hj hn hm hW hI hJ hVV
    have h10 : c ≤ 10 := hW.1.2.1
    obtain ⟨n, rfl⟩ := fuel hn
    obtain ⟨m, rfl⟩ := fuel hm
    have ncj : ¬ nI c ≤ nI j := by rw [nI_leP (by omega) (by omega)]; omega
    obtain ⟨y1, y2, y3, y4, y5, y6, y7, y8, y9⟩ := hW.2.2.2 j (by omega)
    have y7 : I 9 j = J 307 (72 + j) := y7
    have q3 : I 1 3 = J 307 1 := hW.2.2.1.2.1
    have t2 := (hW.2.1 j (by omega)).2.2.2.1
    obtain ⟨v1, v2⟩ := hVV j (by omega)
    have hof := iabs_off (w := vv j) (m := lev) (hv j (by omega)) (by unfold bd at *; omega)
    rw [fX5_countAgreed_L22, show I (1 + 1) 0 = nI c from hW.2.2.1.1, if_neg ncj, has7 (by omega), L10, nI_mul_n, nI_add, show ald I (1 + 23) 240 (nI (r * 10 + j)) = some (vv j) from (ald_n (by omega) (by omega)).trans (by rw [show I (1 + 23) (r * 10 + j) = _ from v1]), show ald I (1 + 18) 24 (nI r) = some lev from (ald_n hr (by omega)).trans (by rw [show I (1 + 18) r = _ from hI]), show ald I (1 + 8) 10 (nI j) = some (J 307 (72 + j)) from (ald_n (by omega) (by omega)).trans (by rw [show I (1 + 8) j = _ from y7]), fX8_agrees_L2, ald_0 (by omega) (by omega), hW.1.2.2.1, has8 (by omega), show ald J 315 10 (nI j) = some (vv j) from (ald_n (by omega) (by omega)).trans (by rw [v2]), hJ, ald_1 (by omega) (by omega), L72, nI_add, ald_n (by omega) (by omega), nI_1]
    simp only [ob_s, off8]
    rw [if_neg ncj, hof, q3]
    cases ha : bt A j
    · rw [b2i_f, if_pos e00, if_pos e00, ob_s, ob_s]
      exact ih (j + 1) n m I J (by omega) (by omega) (by omega) hW hI hJ hVV
    · rw [b2i_t, if_neg n10, if_neg n10]
      have next : ∀ v : Int32, ∃ I' J', fX5_countAgreed_L22 1 A (nI r) n (nI (j + 1)) (wr I 9 j v) = some I' ∧ fX8_agrees_L2 A m (nI (j + 1)) (wr J 307 (72 + j) v) = some J' ∧ EWf c e I' (J' 307) ∧ (∀ k i, ¬ (k = 9) → I' k i = I k i) ∧ (∀ k i, ¬ (k = 307 ∧ 72 ≤ i ∧ i < 82) → J' k i = J k i) := fun v => by
        have hW2 : EWf c e (wr I 9 j v) (wr J 307 (72 + j) v 307) := by
          refine ewf_upd hW (j := j) (by omega) ?_ ?_ ?_ ?_ ?_ (fun k i h => ?_) (fun i h => ?_)
          all_goals simp (disch := omega) only [wr_s, wr_n]
          · exact y5
          · exact t2
          · exact y6
          · exact y8
        obtain ⟨I', J', a1, a2, a3, a4, a5⟩ := ih (j + 1) n m (wr I 9 j v) (wr J 307 (72 + j) v) (by omega) (by omega) (by omega) hW2 (by rw [wr_n (by omega)]; exact hI) (by rw [wr_n (by omega)]; exact hJ) (fun x hx => by rw [wr_n (by omega), wr_n (by omega)]; exact hVV x hx)
        exact ⟨I', J', a1, a2, a3, fun k i h => (a4 k i h).trans (wr_n (by omega)), fun k i h => (a5 k i h).trans (wr_n (by omega))⟩
      by_cases ht : J 307 1 < offI (vv j) lev
      · rw [if_pos ht]
        simp (disch := omega) only [ob_s, ast_n]
        exact next 0
      · rw [if_neg ht]
        simp (disch := omega) only [ob_s, ast_n]
        exact next _
theorem tru_L {c e : Nat} : ∀ (d j n m : Nat) (I J : Mem), j + d = c → d < n → d < m → EWf c e I (J 307) →
    ∃ I' J', fX5_trustAgain_L2 1 n (nI j) I = some I' ∧ fX8_agrees_L74 m (nI j) J = some J' ∧ EWf c e I' (J' 307) ∧ (∀ k i, ¬ (k = 7 ∨ k = 9) → I' k i = I k i) ∧ (∀ k i, ¬ (k = 307 ∧ ((52 ≤ i ∧ i < 62) ∨ (72 ≤ i ∧ i < 82))) → J' k i = J k i) := by
  intro d
  induction d with
  | zero =>
    intro j n m I J hj hn hm hW
    have h10 : c ≤ 10 := hW.1.2.1
    obtain ⟨n, rfl⟩ := fuel hn
    obtain ⟨m, rfl⟩ := fuel hm
    refine ⟨I, J, ?_, ?_, hW, fun _ _ _ => rfl, fun _ _ _ => rfl⟩
    · rw [fX5_trustAgain_L2, show I (1 + 1) 0 = nI c from hW.2.2.1.1, if_pos (by rw [nI_leP (by omega) (by omega)]; omega)]
    · rw [fX8_agrees_L74, ald_0 (by omega) (by omega), hW.1.2.2.1, ob_s, if_pos (by rw [nI_leP (by omega) (by omega)]; omega)]
  | succ d ih =>
    intro j n m I J hj hn hm hW
    have h10 : c ≤ 10 := hW.1.2.1
    obtain ⟨n, rfl⟩ := fuel hn
    obtain ⟨m, rfl⟩ := fuel hm
    have ncj : ¬ nI c ≤ nI j := by rw [nI_leP (by omega) (by omega)]; omega
    obtain ⟨y1, y2, y3, y4, y5, y6, y7, y8, y9⟩ := hW.2.2.2 j (by omega)
    have y5 : I 7 j = J 307 (52 + j) := y5
    have y7 : I 9 j = J 307 (72 + j) := y7
    have q5 : I 1 5 = J 307 3 := hW.2.2.1.2.2.2.1
    rw [fX5_trustAgain_L2, show I (1 + 1) 0 = nI c from hW.2.2.1.1, if_neg ncj, show ald I (1 + 6) 10 (nI j) = some (J 307 (52 + j)) from (ald_n (by omega) (by omega)).trans (by rw [show I (1 + 6) j = _ from y5]), show ald I (1 + 8) 10 (nI j) = some (J 307 (72 + j)) from (ald_n (by omega) (by omega)).trans (by rw [show I (1 + 8) j = _ from y7]), fX8_agrees_L74, ald_0 (by omega) (by omega), hW.1.2.2.1, L52, L72, L3, nI_add, nI_add, ald_n (by omega) (by omega), ald_n (by omega) (by omega), ald_n (by omega) (by omega), q5, nI_1]
    simp only [ob_s]
    rw [if_neg ncj]
    have skip := ih (j + 1) n m I J (by omega) (by omega) (by omega) hW
    by_cases h1 : J 307 (52 + j) = 1
    · rw [if_pos h1, if_pos h1]
      by_cases h2 : J 307 (72 + j) < J 307 3
      · rw [if_pos h2, if_pos h2, ob_s, ob_s]
        exact skip
      · rw [if_neg h2, if_neg h2, ast_n (by omega) (by omega), ob_s, ast_n (by omega) (by omega), ob_s, ob_s, ast_n (by omega) (by omega), ob_s, ast_n (by omega) (by omega), ob_s, ob_s]
        have hW2 : EWf c e (wr (wr I 7 j 0) 9 j 0) (wr (wr J 307 (52 + j) 0) 307 (72 + j) 0 307) := by
          refine ewf_upd hW (j := j) (by omega) ?_ ?_ ?_ ?_ ?_ (fun k i h => ?_) (fun i h => ?_)
          all_goals simp (disch := omega) only [wr_s, wr_n]
          · unfold bd; decide
          · exact y6
          · exact y8
        obtain ⟨I', J', a1, a2, a3, a4, a5⟩ := ih (j + 1) n m (wr (wr I 7 j 0) 9 j 0) (wr (wr J 307 (52 + j) 0) 307 (72 + j) 0) (by omega) (by omega) (by omega) hW2
        exact ⟨I', J', a1, a2, a3, fun k i h => (a4 k i h).trans (by simp (disch := omega) only [wr_n]), fun k i h => (a5 k i h).trans (by simp (disch := omega) only [wr_n])⟩
    · rw [if_neg h1, if_neg h1, ob_s, ob_s]
      exact skip
theorem dra_L {c e r : Nat} {V : Int32} (hr : r < 24) : ∀ (d j n m : Nat) (a : Int32) (I J : Mem), j + d = c → d < n → d < m → EWf c e I (J 307) → I 16 r = V →
    ∃ g I' J', fX5_dragVoters_L4 1 (nI r) n (nI j) a I = some (g, I') ∧ fX8_dragsOff_L4 V m (nI j) a J = some (g, J') ∧ EWf c e I' (J' 307) ∧ (∀ k i, ¬ (k = 7) → I' k i = I k i) ∧ (∀ k i, ¬ (k = 307 ∧ 52 ≤ i ∧ i < 62) → J' k i = J k i) ∧ (∀ i, 32 > i → bt g i = true → bt a i = true ∨ i < c) := by
  intro d
  induction d with
  | zero =>
    intro j n m a I J hj hn hm hW hV
    have h10 : c ≤ 10 := hW.1.2.1
    obtain ⟨n, rfl⟩ := fuel hn
    obtain ⟨m, rfl⟩ := fuel hm
    refine ⟨a, I, J, ?_, ?_, hW, fun _ _ _ => rfl, fun _ _ _ => rfl, fun i _ h => Or.inl h⟩
    · rw [fX5_dragVoters_L4, show I (1 + 1) 0 = nI c from hW.2.2.1.1, if_pos (by rw [nI_leP (by omega) (by omega)]; omega)]
    · rw [fX8_dragsOff_L4, ald_0 (by omega) (by omega), hW.1.2.2.1, ob_s, if_pos (by rw [nI_leP (by omega) (by omega)]; omega)]
  | succ d ih =>
    intro j n m a I J hj hn hm hW hV
    have h10 : c ≤ 10 := hW.1.2.1
    obtain ⟨n, rfl⟩ := fuel hn
    obtain ⟨m, rfl⟩ := fuel hm
    have ncj : ¬ nI c ≤ nI j := by rw [nI_leP (by omega) (by omega)]; omega
    obtain ⟨y1, y2, y3, y4, y5, y6, y7, y8, y9⟩ := hW.2.2.2 j (by omega)
    have y6' : I 8 j = J 307 (62 + j) := y6
    have q4 : I 1 4 = J 307 2 := hW.2.2.1.2.2.1
    rw [fX5_dragVoters_L4, show I (1 + 1) 0 = nI c from hW.2.2.1.1, if_neg ncj, show ald I (1 + 15) 24 (nI r) = some V from (ald_n hr (by omega)).trans (by rw [show I (1 + 15) r = V from hV]), ob_s, has7 (by omega), show ald I (1 + 7) 10 (nI j) = some (J 307 (62 + j)) from (ald_n (by omega) (by omega)).trans (by rw [show I (1 + 7) j = _ from y6]), fX8_dragsOff_L4, ald_0 (by omega) (by omega), hW.1.2.2.1, has8 (by omega), L62, L52, nI_add, nI_add, ald_n (by omega) (by omega), show ald J 307 574 2 = some (J 307 2) from ald_n (j := 2) (by omega) (by omega), q4, nI_1]
    simp only [ob_s]
    rw [if_neg ncj]
    have skip := ih (j + 1) n m a I J (by omega) (by omega) (by omega) hW hV
    cases hv : bt V j
    · rw [b2i_f, if_pos e00, if_pos e00, ob2_some, ob2_some]
      exact skip
    · rw [b2i_t, if_neg n10, if_neg n10]
      by_cases h2 : J 307 (62 + j) < J 307 2
      · rw [if_pos h2, if_pos h2, ob2_some, ob2_some]
        exact skip
      · rw [if_neg h2, if_neg h2, ast_n (by omega) (by omega), ob_s, ob2_some, ast_n (by omega) (by omega), ob_s, ob2_some]
        have hW2 : EWf c e (wr I 7 j 2) (wr J 307 (52 + j) 2 307) := by
          refine ewf_upd hW (j := j) (by omega) ?_ ?_ ?_ ?_ ?_ (fun k i h => ?_) (fun i h => ?_)
          all_goals simp (disch := omega) only [wr_s, wr_n]
          · unfold bd; decide
          · exact y6
          · exact y7
          · exact y8
        obtain ⟨g, I', J', a1, a2, a3, a4, a5, a6⟩ := ih (j + 1) n m (a ||| bit1 j) (wr I 7 j 2) (wr J 307 (52 + j) 2) (by omega) (by omega) (by omega) hW2 (by rw [wr_n (by omega)]; exact hV)
        refine ⟨g, I', J', a1, a2, a3, fun k i h => (a4 k i h).trans (wr_n (by omega)), fun k i h => (a5 k i h).trans (wr_n (by omega)), fun i hi h => ?_⟩
        rcases a6 i hi h with h' | h'
        · rw [bit_set (by omega) (by omega)] at h'
          by_cases hij : i = j
          · exact Or.inr (by omega)
          · simp [hij] at h'
            exact Or.inl h'
        · exact Or.inr h'
