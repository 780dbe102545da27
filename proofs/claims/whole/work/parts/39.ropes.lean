/-! ROPES REMADE; STORMS -/
theorem ew_ren {c e : Nat} {I I' : Mem} {F F' : Row} {s L : Int32} (hW1 : EW c e I 1 F) (i6 : I' 1 6 = I 1 6 - L) (i11 : I' 1 11 = I 1 11 + L) (i12 : I' 12 0 = I 12 0 &&& (s ^^^ (-1))) (i14 : ∀ k, k + 1 < c → I' 14 k = if bt s k = true then 0 else I 14 k)
    (hI : ∀ k j, k ≠ 14 → ¬ (k = 12 ∧ j = 0) → ¬ (k = 1 ∧ (j = 6 ∨ j = 11)) → I' k j = I k j) (f4 : F' 4 = F 4 - L) (f10 : F' 10 = F 10 + L) (f132 : ∀ k, k + 1 < c → F' (132 + k) = if bt s k = true then 0 else F (132 + k)) (f122 : ∀ k, k + 1 < c → F' (122 + k) = if bt s k = true then 0 else F (122 + k))
    (hF : ∀ i, i ≠ 4 → i ≠ 10 → ¬ (122 ≤ i ∧ i < 132) → ¬ (132 ≤ i ∧ i < 142) → F' i = F i) : EW c e I' 1 F' := by
  have h10 := hW1.c10
  obtain ⟨⟨w1, w2, w3, w4⟩, q1, q2, q3, q4⟩ := hW1
  refine ⟨⟨w1.cg (fun i h1 h2 => hF i (by omega) (by omega) (by omega) (by omega)), w2.cg h10 (fun i h1 h2 h3 => hF i (by omega) (by omega) (by omega) (by omega)), ?_, w4.cg h10 (fun i h1 h2 => hF i (by omega) (by omega) (by omega) (by omega))⟩, ?_, q2.cg h10 (fun k j h1 h2 h3 => hI _ _ (by omega) (by omega) (by omega)) (fun i h1 h2 h3 => hF i (by omega) (by omega) (by omega) (by omega)), ?_, q4.cg h10 (fun k j h1 h2 => hI _ _ (by omega) (by omega) (by omega)) (fun i h1 h2 => hF i (by omega) (by omega) (by omega) (by omega))⟩
  · intro j hj
    rw [f132 j hj]
    split
    · exact Or.inl rfl
    · exact w3 j hj
  · obtain ⟨m0, m3, m4, m5, m6, m7, m8, m9, m10, m11, mb, mr⟩ := q1
    refine ⟨?_, ?_, ?_, ?_, ?_, ?_, ?_, ?_, ?_, ?_, ?_, ?_⟩
    · rw [hI 2 0 (by omega) (by omega) (by omega)]; exact m0
    · rw [hI 1 3 (by omega) (by omega) (by omega), hF 1 (by omega) (by omega) (by omega) (by omega)]; exact m3
    · rw [hI 1 4 (by omega) (by omega) (by omega), hF 2 (by omega) (by omega) (by omega) (by omega)]; exact m4
    · rw [hI 1 5 (by omega) (by omega) (by omega), hF 3 (by omega) (by omega) (by omega) (by omega)]; exact m5
    · rw [i6, f4, m6]
    · rw [hI 1 7 (by omega) (by omega) (by omega), hF 5 (by omega) (by omega) (by omega) (by omega)]; exact m7
    · rw [hI 1 8 (by omega) (by omega) (by omega), hF 7 (by omega) (by omega) (by omega) (by omega)]; exact m8
    · rw [hI 1 9 (by omega) (by omega) (by omega), hF 8 (by omega) (by omega) (by omega) (by omega)]; exact m9
    · rw [hI 1 10 (by omega) (by omega) (by omega), hF 9 (by omega) (by omega) (by omega) (by omega)]; exact m10
    · rw [i11, f10, m11]
    · rw [i12, show I 12 0 = _ from mb]
      apply b_ext
      intro i hi
      rw [b_and, b_not hi, b_bsl hi _ _ _ (by omega), b_bsl hi _ _ _ (by omega), b_0]
      by_cases hic : i < c - 1
      · unfold broB
        rw [f132 i (by omega)]
        cases hs : bt s i
        · simp
        · simp
      · simp [hic]
    · rw [hI 2 1 (by omega) (by omega) (by omega), show I 2 1 = _ from mr]
      exact bsl_cong (fun i hi => by unfold hasB; rw [hF (92 + i) (by omega) (by omega) (by omega) (by omega)])
  · intro j hj
    rw [hI 13 j (by omega) (by omega) (by omega), i14 j (by omega), hF (112 + j) (by omega) (by omega) (by omega) (by omega), f122 j hj]
    obtain ⟨y1, y2⟩ := q3 j hj
    refine ⟨y1, ?_⟩
    split
    · rfl
    · exact y2

theorem ren_L {c : Nat} {s a2 : Int32} (h10 : c ≤ 10) (h1 : 1 ≤ c) : ∀ (d j n : Nat) (I : Mem), j + d = c - 1 → d < n → I 2 0 = nI c → ∃ I', fX5_renew_L8 1 a2 s n (nI j) I = some I' ∧ (∀ k i, k ≠ 14 → I' k i = I k i) ∧ (∀ k, k < c - 1 → I' 14 k = if j ≤ k ∧ bt s k = true then 0 else I 14 k) := by
  intro d
  induction d with
  | zero =>
    intro j n I hj hn I0
    obtain ⟨n, rfl⟩ := fuel hn
    exact ⟨I, by rw [fX5_renew_L8, show I (1 + 1) 0 = nI c from I0, nI_sub1 h1 (by omega), if_pos (by rw [nI_leP (by omega) (by omega)]; omega)], fun _ _ _ => rfl, fun k hk => by rw [if_neg (by omega)]⟩
  | succ d ih =>
    intro j n I hj hn I0
    obtain ⟨n, rfl⟩ := fuel hn
    have hstep : fX5_renew_L8 1 a2 s (n + 1) (nI j) I = fX5_renew_L8 1 a2 s n (nI (j + 1)) (if bt s j = true then wr I 14 j 0 else I) := by
      rw [fX5_renew_L8, show I (1 + 1) 0 = nI c from I0, nI_sub1 h1 (by omega), if_neg (by rw [nI_leP (by omega) (by omega)]; omega), has7 (by omega), ob_s, ast_n (by omega) (by omega), nI_1]
      cases bt s j
      · rw [b2i_f, if_pos e00, ob_s]; rfl
      · rw [b2i_t, if_neg n10, ob_s, ob_s]; rfl
    rw [hstep]
    cases hs : bt s j
    · obtain ⟨I', a1, a2, a3⟩ := ih (j + 1) n I (by omega) (by omega) I0
      refine ⟨I', a1, a2, fun k hk => ?_⟩
      rw [a3 k hk]
      by_cases hjk : k = j
      · subst hjk; rw [if_neg (by omega), if_neg (by simp [hs])]
      · by_cases h : j ≤ k ∧ bt s k = true
        · rw [if_pos h, if_pos ⟨by omega, h.2⟩]
        · rw [if_neg h, if_neg (fun h' => h ⟨by omega, h'.2⟩)]
    · obtain ⟨I', a1, a2, a3⟩ := ih (j + 1) n (wr I 14 j 0) (by omega) (by omega) ((wr_n (by omega)).trans I0)
      refine ⟨I', a1, fun k i hk => (a2 k i hk).trans (wr_n (by omega)), fun k hk => ?_⟩
      rw [a3 k hk]
      by_cases hjk : k = j
      · subst hjk; rw [if_neg (by omega), if_pos ⟨Nat.le_refl _, hs⟩, wr_s]
      · rw [wr_n (by omega)]
        by_cases h : j ≤ k ∧ bt s k = true
        · rw [if_pos h, if_pos ⟨by omega, h.2⟩]
        · rw [if_neg h, if_neg (fun h' => h ⟨by omega, h'.2⟩)]
theorem ren7 {c e : Nat} {I : Mem} {F : Row} {s : Int32} (hW : EW c e I 1 F) : ∃ I', fX5_renew 1 s I = some I' ∧ I' 1 6 = I 1 6 - lens c F s ∧ I' 1 11 = I 1 11 + lens c F s ∧ I' 12 0 = I 12 0 &&& (s ^^^ (-1)) ∧ (∀ k, k + 1 < c → I' 14 k = if bt s k = true then 0 else I 14 k) ∧ (∀ k j, k ≠ 14 → ¬ (k = 12 ∧ j = 0) → ¬ (k = 1 ∧ (j = 6 ∨ j = 11)) → I' k j = I k j) := by
  have h10 := hW.c10
  have h2 := hW.1.1.1
  obtain ⟨I1, a1, a2, a3⟩ := ren_L (s := s) (a2 := lens c F s) h10 (by omega) (c - 1) 0 zF I (by omega) (zF_g (by omega)) hW.2.1.1
  refine ⟨wr (wr (wr I1 12 0 (I 12 0 &&& (s ^^^ (-1)))) 1 6 (I 1 6 - lens c F s)) 1 11 (I 1 11 + lens c F s), ?_, ?_, ?_, ?_, fun k hk => ?_, fun k j h1 h2 h3 => ?_⟩
  · unfold fX5_renew
    rw [len7 hW, ob_s, show fX5_renew_L8 1 (lens c F s) s zF 0 I = _ from a1, ob_s]
    simp (disch := omega) only [wr_s, wr_n, a2, Nat.reduceAdd]
  · simp (disch := omega) only [wr_s, wr_n]
  · simp (disch := omega) only [wr_s, wr_n]
  · simp (disch := omega) only [wr_s, wr_n]
  · simp (disch := omega) only [wr_n]
    rw [a3 k (by omega)]
    simp
  · simp (disch := omega) only [wr_n]
    exact a2 k j h1
def nJ (J : Mem) (r : Nat) : Mem := wr (wr (wr (wr J 307 4 (J 307 4 - dst (J 307) r)) 307 10 (J 307 10 + dst (J 307) r)) 307 (132 + r) 0) 307 (122 + r) 0
theorem ren8 {r : Nat} {J : Mem} (hr : r < 9) : fX8_renews (nI r) J = some (nJ J r) := by
  unfold fX8_renews nJ
  rw [L4, ald_n (by omega) (by omega), ob_s, long_e (by omega), ob_s, ast_n (by omega) (by omega), ob_s, L10, ald_n (by omega) (by omega), ob_s, long_e (by omega), ob_s, ast_n (by omega) (by omega), ob_s, L132, L122, nI_add, nI_add, ast_n (by omega) (by omega), ob_s, ast_n (by omega) (by omega), ob_s]
  simp (disch := omega) only [wr_n]
  rfl
theorem lens_one {c r : Nat} {F : Row} (h10 : c ≤ 10) (hr : r + 1 < c) : lens c F (bit1 r) = dst F r := by
  unfold lens vsum
  rw [show c - 1 = r + (1 + (c - 1 - r - 1)) by omega, itr_add, Nat.zero_add, itr_add, itr_id r 0 0 (fun i a h1 h2 => by rw [b_bit1 (by omega) (by omega)]; simp; omega)]
  rw [itr_id _ (r + 1) _ (fun i a h1 h2 => by rw [b_bit1 (by omega) (by omega)]; simp; omega)]
  show (if bt (bit1 r) r = true then 0 + dst F r else 0) = dst F r
  rw [b_bit1 (by omega) (by omega)]
  simp
theorem ew_ren1 {c e r : Nat} {I I' : Mem} {J : Mem} (hW : EW c e I 1 (J 307)) (hr : r + 1 < c) (i6 : I' 1 6 = I 1 6 - lens c (J 307) (bit1 r)) (i11 : I' 1 11 = I 1 11 + lens c (J 307) (bit1 r)) (i12 : I' 12 0 = I 12 0 &&& (bit1 r ^^^ (-1))) (i14 : ∀ k, k + 1 < c → I' 14 k = if bt (bit1 r) k = true then 0 else I 14 k)
    (hI : ∀ k j, k ≠ 14 → ¬ (k = 12 ∧ j = 0) → ¬ (k = 1 ∧ (j = 6 ∨ j = 11)) → I' k j = I k j) : EW c e I' 1 (nJ J r 307) := by
  have h10 := hW.c10
  rw [lens_one h10 hr] at i6 i11
  refine ew_ren hW i6 i11 i12 i14 hI ?_ ?_ (fun k hk => ?_) (fun k hk => ?_) (fun i h1 h2 h3 h4 => ?_)
  · unfold nJ; simp (disch := omega) only [wr_s, wr_n]
  · unfold nJ; simp (disch := omega) only [wr_s, wr_n]
  · unfold nJ
    rw [b_bit1 (by omega) (by omega)]
    by_cases h : k = r
    · subst h; simp (disch := omega) only [wr_s, wr_n]; simp
    · simp (disch := omega) only [wr_n]; simp [h]
  · unfold nJ
    rw [b_bit1 (by omega) (by omega)]
    by_cases h : k = r
    · subst h; simp (disch := omega) only [wr_s, wr_n]; simp
    · simp (disch := omega) only [wr_n]; simp [h]
  · unfold nJ; simp (disch := omega) only [wr_n]
theorem act_remake {E r : Nat} {I J : Mem} (hR : RelB E I J) (hE : E < 2 ^ 29) (hr : nI (r + 1) < J 307 0) (hr2 : r + 1 < 2 ^ 31) : ∃ v I' J', fX7_remake (nI r) I = some (0, v, I') ∧ fX8_remakes (nI r) J = some (v, J') ∧ RelB E I' J' ∧ J' 306 0 = J 306 0 := by
  obtain ⟨c, e, ⟨hc2, h10, h30, he⟩, ⟨J0, -, -⟩, ⟨I0, -⟩, hW⟩ := hR.at hE
  rw [J0, nI_ltP (by omega) (by omega)] at hr
  have q6 : I 1 6 = J 307 4 := hW.2.1.2.2.2.2.1
  have hbr : I 12 0 = bsl (broB (J 307)) 0 (c - 1) 0 := hW.2.1.2.2.2.2.2.2.2.2.2.2.1
  obtain ⟨y1, y2⟩ := hW.2.2.2.1 r hr
  have y2 : I 14 r = J 307 (122 + r) := y2
  have w3 := hW.1.2.2.1 r hr
  have hd7 : fX0_distanceBehind 1 (nI r) I = some (dst (J 307) r) := by
    rw [dist_e (b := 1) I0 h10 hr, (hW.2.2.1 r (by omega)).1, (hW.2.2.1 (r + 1) (by omega)).1]
    rfl
  have hd8 : fX8_long0 (nI r) J = some (dst (J 307) r) := long_e (by omega)
  have doit : ∃ v I' J', (Option.bind (fX7_beginAct I) fun I10 => Option.bind (fX5_renew 1 ((1 : Int32) <<< (nI r &&& 31)) I10) fun I11 => some ((0 : Nat), (I11 1 6), I11)) = some (0, v, I') ∧ (Option.bind (fX8_keeps J) fun J12 => Option.bind (fX8_renews (nI r) J12) fun J13 => Option.bind (ald J13 307 574 (4 : Int32)) fun x14 => some (x14, J13)) = some (v, J') ∧ RelB E I' J' ∧ J' 306 0 = J 306 0 := by
    obtain ⟨I1, J1, b1, b2, b3, b4, b5, b6⟩ := begin_at hR
    have hW1 : EW c e I1 1 (J1 307) := by rw [b5]; exact hW.bI b4
    obtain ⟨I2, c1, c2, c3, c4, c5, c6⟩ := ren7 (s := bit1 r) hW1
    have hW2 := ew_ren1 hW1 hr c2 c3 c4 c5 c6
    rw [b1, ob_s, b2, ob_s, show fX5_renew 1 (1 <<< (nI r &&& 31)) I1 = _ from c1, ob_s, ren8 (by omega), ob_s, L4, ald_n (by omega) (by omega), ob_s]
    refine ⟨I2 1 6, I2, nJ J1 r, rfl, by rw [show I2 1 6 = nJ J1 r 307 4 from hW2.2.1.2.2.2.2.1], RelB.set (Nat.le_refl _) b3 (fun k j h1 h2 => c6 _ _ (by omega) (by omega) (by omega)) (fun k j h1 h2 => by unfold nJ; simp (disch := omega) only [wr_n]) ⟨c, e, he, hW2⟩, ?_⟩
    unfold nJ
    simp (disch := omega) only [wr_n]
    exact b6
  have poor : ∃ v I' J', (ob2 (fX7_refuse (2 : Int32) I) fun x12 I13 => some ((0 : Nat), x12, I13)) = some (0, v, I') ∧ (ob2 (fX8_refused (2 : Int32) J) fun x15 J16 => some (x15, J16)) = some (v, J') ∧ RelB E I' J' ∧ J' 306 0 = J 306 0 := by
    obtain ⟨I', J', r1, r2, r3, r4⟩ := refuse_e hR (k := 2) (by omega) (by omega)
    exact ⟨-(nI 2), I', J', by rw [show fX7_refuse 2 I = _ from r1]; rfl, by rw [show fX8_refused 2 J = _ from r2]; rfl, r3, r4⟩
  unfold fX7_remake fX8_remakes
  rw [chkR_i I0 h10 hr, ob_s, if_pos rfl, has7 (by omega), hbr, has_bsl (show r < c - 1 by omega) (by omega), L132, L122, nI_add, nI_add, ald_n (by omega) (by omega), ald_n (by omega) (by omega), ald_n (by omega) (by omega), hd7, hd8, show ald J 307 574 4 = some (J 307 4) from ald_n (j := 4) (by omega) (by omega), y2, q6]
  simp only [ob_s]
  rcases w3 with w3 | w3
  · have hbj : broB (J 307) r = false := by unfold broB; rw [w3]; rfl
    rw [hbj, b2i_f, if_pos e00, w3, if_pos e00]
    by_cases hw : J 307 (122 + r) = 0
    · rw [if_pos hw, if_pos hw]
      obtain ⟨I', J', r1, r2, r3, r4⟩ := refuse_e hR (k := 1) (by omega) (by omega)
      exact ⟨-(nI 1), I', J', by rw [show fX7_refuse 1 I = _ from r1]; rfl, by rw [show fX8_refused 1 J = _ from r2]; rfl, r3, r4⟩
    · rw [if_neg hw, if_neg hw]
      by_cases hl : dst (J 307) r ≤ J 307 4
      · rw [if_pos hl, if_pos hl]
        exact doit
      · rw [if_neg hl, if_neg hl]
        exact poor
  · have hbj : broB (J 307) r = true := by unfold broB; rw [w3]; rfl
    rw [hbj, b2i_t, if_neg n10, w3, if_neg n10]
    by_cases hl : dst (J 307) r ≤ J 307 4
    · rw [if_pos hl, if_pos hl]
      exact doit
    · rw [if_neg hl, if_neg hl]
      exact poor
theorem q_32 : eqP_32 Rel := by
  intro n I J hn hR p0
  obtain ⟨c, e, ⟨h2, h10, h30, he⟩, ⟨J0, J5, J6⟩, ⟨I0, I7⟩, hW⟩ := hR.facts hn
  have t0 : (wr J 306 0 0) 306 0 = 0 := wr_s
  have K0 : (wr J 306 0 0) 307 0 = nI c := w7.trans J0
  rcases inx (c := c - 1) (by omega) p0 with ⟨b, hb, rfl⟩ | ho
  · obtain ⟨r, I', J', r1, r2, r3, r4⟩ := act_remake (E := 7 * (n + 6)) (r := b) (Rel.J0 hR 0) (by omega) (by rw [K0, nI_ltP (by omega) (by omega)]; omega) (by omega)
    refine ⟨0, r, I', r, J', r1, ?_, r3, Or.inl ⟨rfl, r4.trans t0, rfl⟩⟩
    unfold fX8_remake
    rw [noR_i t0 K0 h10 (by omega), ob2_some, if_pos e00, r2]
    rfl
  · refine ⟨1, 0, I, 0, wr (wr J 306 0 0) 306 0 1, ?_, ?_, wJ0 hR 1, Or.inr ⟨rfl, wr_s⟩⟩
    · unfold fX7_remake
      rw [chkR_o I0 (by omega) h10 ho, ob_s, if_neg (by decide)]
    · unfold fX8_remake
      rw [noR_o t0 K0 (by omega) h10 ho, ob2_some, if_neg (by decide)]
      rfl
/-- the reference's loop over the ropes of a plan -/
theorem rb_L {F : Row} {s : Int32} : ∀ (d j n : Nat) (J : Mem) (x : Int32), j + d = 9 → d < n → (∀ i, i < 132 → i ≠ 4 → i ≠ 10 → ¬ (122 ≤ i) → J 307 i = F i) → J 307 4 = F 4 - x → J 307 10 = F 10 + x →
    ∃ J', fX8_remakesBy_L23 s n (nI j) J = some J' ∧ J' 307 4 = F 4 - vsum (dst F) (bt s) j d x ∧ J' 307 10 = F 10 + vsum (dst F) (bt s) j d x ∧ (∀ k, k < 9 → J' 307 (132 + k) = if j ≤ k ∧ bt s k = true then 0 else J 307 (132 + k)) ∧ (∀ k, k < 9 → J' 307 (122 + k) = if j ≤ k ∧ bt s k = true then 0 else J 307 (122 + k)) ∧ (∀ k i, ¬ (k = 307 ∧ (i = 4 ∨ i = 10 ∨ (122 ≤ i ∧ i < 131) ∨ (132 ≤ i ∧ i < 141))) → J' k i = J k i) := by
  intro d
  induction d with
  | zero =>
    intro j n J x hj hn hF h4 h10
    obtain ⟨n, rfl⟩ := fuel hn
    exact ⟨J, by rw [fX8_remakesBy_L23, L9, if_pos (by rw [nI_leP (by omega) (by omega)]; omega)], h4, h10, fun k hk => by rw [if_neg (by omega)], fun k hk => by rw [if_neg (by omega)], fun _ _ _ => rfl⟩
  | succ d ih =>
    intro j n J x hj hn hF h4 h10
    obtain ⟨n, rfl⟩ := fuel hn
    have hstep : fX8_remakesBy_L23 s (n + 1) (nI j) J = fX8_remakesBy_L23 s n (nI (j + 1)) (if bt s j = true then nJ J j else J) := by
      rw [fX8_remakesBy_L23, L9, if_neg (by rw [nI_leP (by omega) (by omega)]; omega), has8 (by omega), ob_s, ren8 (by omega), ob_s, nI_1]
      cases bt s j
      · rw [b2i_f, if_pos e00, ob_s]; rfl
      · rw [b2i_t, if_neg n10, ob_s]; rfl
    rw [hstep]
    have hv : vsum (dst F) (bt s) j (d + 1) x = vsum (dst F) (bt s) (j + 1) d (if bt s j = true then x + dst F j else x) := rfl
    rw [hv]
    cases hs : bt s j
    · obtain ⟨J', a1, a2, a3, a4, a5, a6⟩ := ih (j + 1) n J x (by omega) (by omega) hF h4 h10
      refine ⟨J', a1, a2, a3, fun k hk => ?_, fun k hk => ?_, a6⟩
      · rw [a4 k hk]
        by_cases hjk : k = j
        · subst hjk; rw [if_neg (by omega), if_neg (by simp [hs])]
        · by_cases h : j ≤ k ∧ bt s k = true
          · rw [if_pos h, if_pos ⟨by omega, h.2⟩]
          · rw [if_neg h, if_neg (fun h' => h ⟨by omega, h'.2⟩)]
      · rw [a5 k hk]
        by_cases hjk : k = j
        · subst hjk; rw [if_neg (by omega), if_neg (by simp [hs])]
        · by_cases h : j ≤ k ∧ bt s k = true
          · rw [if_pos h, if_pos ⟨by omega, h.2⟩]
          · rw [if_neg h, if_neg (fun h' => h ⟨by omega, h'.2⟩)]
    · have hdst : dst (J 307) j = dst F j := by
        unfold dst
        rw [hF (12 + j + 1) (by omega) (by omega) (by omega) (by omega), hF (12 + j) (by omega) (by omega) (by omega) (by omega)]
      have sub_s : ∀ a b y : Int32, a - b - y = a - (b + y) := fun a b y => by
        rw [Int32.sub_eq_add_neg, Int32.sub_eq_add_neg, Int32.sub_eq_add_neg, Int32.neg_add, Int32.sub_eq_add_neg, Int32.add_assoc]
      obtain ⟨J', a1, a2, a3, a4, a5, a6⟩ := ih (j + 1) n (nJ J j) (x + dst F j) (by omega) (by omega) (fun i h1 h2 h3 h4 => by unfold nJ; simp (disch := omega) only [wr_n]; exact hF i h1 h2 h3 h4) (by unfold nJ; simp (disch := omega) only [wr_s, wr_n]; rw [h4, hdst, sub_s]) (by unfold nJ; simp (disch := omega) only [wr_s, wr_n]; rw [h10, hdst, Int32.add_assoc])
      refine ⟨J', a1, a2, a3, fun k hk => ?_, fun k hk => ?_, fun k i h => ?_⟩
      · rw [a4 k hk]
        by_cases hjk : k = j
        · subst hjk
          rw [if_neg (by omega), if_pos ⟨Nat.le_refl _, hs⟩]
          unfold nJ; simp (disch := omega) only [wr_s, wr_n]
        · have e : nJ J j 307 (132 + k) = J 307 (132 + k) := by unfold nJ; simp (disch := omega) only [wr_n]
          rw [e]
          by_cases h : j ≤ k ∧ bt s k = true
          · rw [if_pos h, if_pos ⟨by omega, h.2⟩]
          · rw [if_neg h, if_neg (fun h' => h ⟨by omega, h'.2⟩)]
      · rw [a5 k hk]
        by_cases hjk : k = j
        · subst hjk
          rw [if_neg (by omega), if_pos ⟨Nat.le_refl _, hs⟩]
          unfold nJ; simp (disch := omega) only [wr_s]
        · have e : nJ J j 307 (122 + k) = J 307 (122 + k) := by unfold nJ; simp (disch := omega) only [wr_n]
          rw [e]
          by_cases h : j ≤ k ∧ bt s k = true
          · rw [if_pos h, if_pos ⟨by omega, h.2⟩]
          · rw [if_neg h, if_neg (fun h' => h ⟨by omega, h'.2⟩)]
      · rw [a6 k i h]
        unfold nJ
        simp (disch := omega) only [wr_n]
theorem act_remakeBy {E f : Nat} {I J : Mem} (hR : RelB E I J) (hE : E < 2 ^ 29) (h1 : 1 ≤ f) (h3 : f < 100) : ∃ v I' J', fX7_remakeBy (nI f) I = some (0, v, I') ∧ fX8_remakesBy (nI f) J = some (v, J') ∧ RelB E I' J' ∧ J' 306 0 = J 306 0 := by
  obtain ⟨c, e, ⟨hc2, h10, h30, he⟩, ⟨J0, -, -⟩, ⟨I0, -⟩, hW⟩ := hR.at hE
  obtain ⟨s, s1, s2, s3⟩ := plan_e hW rfl (f := f) (by omega)
  unfold fX7_remakeBy fX8_remakesBy
  rw [chkF_i h1 h3, ob_s, if_pos rfl, s1, ob_s, s2, ob_s]
  by_cases hs : s = -1
  · rw [if_pos hs, if_pos hs]
    obtain ⟨I', J', r1, r2, r3, r4⟩ := refuse_e hR (k := 3) (by omega) (by omega)
    exact ⟨-(nI 3), I', J', by rw [show fX7_refuse 3 I = _ from r1]; rfl, by rw [show fX8_refused 3 J = _ from r2]; rfl, r3, r4⟩
  · obtain ⟨y, hy, hsy⟩ := s3.resolve_left hs
    have hhi : ∀ i, c - 1 ≤ i → bt s i = false := fun i hi => by rw [hsy]; exact bt_low hy hi
    rw [if_neg hs, if_neg hs]
    obtain ⟨I1, J1, b1, b2, b3, b4, b5, b6⟩ := begin_at hR
    have hW1 : EW c e I1 1 (J1 307) := by rw [b5]; exact hW.bI b4
    obtain ⟨I2, c1, c2, c3, c4, c5, c6⟩ := ren7 (s := s) hW1
    obtain ⟨J2, d1, d2, d3, d4, d5, d6⟩ := rb_L (F := J1 307) (s := s) 9 0 zF J1 0 rfl (zF_g (by omega)) (fun _ _ _ _ _ => rfl) (by rw [Int32.sub_zero]) (by rw [Int32.add_zero])
    have hv : vsum (dst (J1 307)) (bt s) 0 9 0 = lens c (J1 307) s := by
      unfold lens vsum
      rw [show 9 = (c - 1) + (9 - (c - 1)) by omega, itr_add, Nat.zero_add]
      exact itr_id _ _ _ fun i a h1 h2 => by simp [hhi i h1]
    rw [hv] at d2 d3
    have hW2 : EW c e I2 1 (J2 307) := by
      refine ew_ren hW1 c2 c3 c4 c5 c6 d2 d3 (fun k hk => ?_) (fun k hk => ?_) (fun i h1 h2 h3 h4 => d6 _ _ (by omega))
      · rw [d4 k (by omega)]; simp
      · rw [d5 k (by omega)]; simp
    rw [b1, ob_s, b2, ob_s, c1, ob_s, show fX8_remakesBy_L23 s zF 0 J1 = _ from d1, ob_s, bc_e (fun i hi => hhi i (by omega)), ob_s, bits8, ob_s]
    exact ⟨pc10 s, I2, J2, rfl, rfl, RelB.set (Nat.le_refl _) b3 (fun k j h1 h2 => c6 _ _ (by omega) (by omega) (by omega)) (fun k j h1 h2 => d6 _ _ (by omega)) ⟨c, e, he, hW2⟩, (d6 _ _ (by omega)).trans b6⟩
theorem q_33 : eqP_33 Rel := by
  intro n I J hn hR p0
  have t0 : (wr J 306 0 0) 306 0 = 0 := wr_s
  rcases inb (lo := 1) (hi := 100) (by omega) (by omega) p0 with ⟨a, h1, h2, rfl⟩ | ho
  · obtain ⟨r, I', J', r1, r2, r3, r4⟩ := act_remakeBy (E := 7 * (n + 6)) (f := a) (Rel.J0 hR 0) (by omega) h1 h2
    refine ⟨0, r, I', r, J', r1, ?_, r3, Or.inl ⟨rfl, r4.trans t0, rfl⟩⟩
    unfold fX8_remakeBy
    rw [noF_i h1 h2, ob2_some, if_pos e00, r2]
    rfl
  · refine ⟨2, 0, I, 0, wr (wr J 306 0 0) 306 0 1, ?_, ?_, wJ0 hR 1, Or.inr ⟨rfl, wr_s⟩⟩
    · unfold fX7_remakeBy
      rw [chkF_o ho, ob_s, if_neg (by decide)]
    · unfold fX8_remakeBy
      rw [noF_o ho, ob2_some, if_neg (by decide)]
      rfl
