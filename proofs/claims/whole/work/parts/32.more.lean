/-! THE WEAKEST ROPE, ONE SEGMENT, THE LEVEL OF NOW, THE OUTPUT'S BYTES -/
theorem weak_st {c e : Nat} {I J : Mem} {F : Row} (hW : EW c e I 1 F) (hF : J 307 = F) : ∀ (d j n m : Nat) (a b : Int32), j + d = c - 1 → d < n → d < m → (a = -1 ∨ ∃ y, y < c - 1 ∧ a = nI y ∧ b = F (112 + y) - F (122 + y)) →
    ∃ r, fX7_weakest_L6 n (nI j) b a I = some r ∧ fX8_weakest_L9 m (nI j) a J = some r := by
  have h10 := hW.c10
  have h2 := hW.1.1.1
  have I0 : I 2 0 = nI c := hW.2.1.1
  have K0 : J 307 0 = nI c := by rw [hF]; exact hW.1.1.2.2.1
  have hbr : I 12 0 = bsl (broB F) 0 (c - 1) 0 := hW.2.1.2.2.2.2.2.2.2.2.2.2.1
  intro d
  induction d with
  | zero =>
    intro j n m a b hj hn hm hab
    obtain ⟨n, rfl⟩ := fuel hn
    obtain ⟨m, rfl⟩ := fuel hm
    refine ⟨a, ?_, ?_⟩
    · rw [fX7_weakest_L6, I0, nI_sub1 (by omega) (by omega), if_pos (by rw [nI_leP (by omega) (by omega)]; omega)]
    · rw [fX8_weakest_L9, ald_0 (by omega) (by omega), K0, ob_s, nI_1, if_pos (by rw [nI_leP (by omega) (by omega)]; omega)]
  | succ d ih =>
    intro j n m a b hj hn hm hab
    obtain ⟨n, rfl⟩ := fuel hn
    obtain ⟨m, rfl⟩ := fuel hm
    have keep := ih (j + 1) n m a b (by omega) (by omega) (by omega) hab
    have take : ∃ r, fX7_weakest_L6 n (nI (j + 1)) (F (112 + j) - F (122 + j)) (nI j) I = some r ∧ fX8_weakest_L9 m (nI (j + 1)) (nI j) J = some r := ih (j + 1) n m (nI j) (F (112 + j) - F (122 + j)) (by omega) (by omega) (by omega) (Or.inr ⟨j, by omega, rfl, rfl⟩)
    obtain ⟨r1, r2⟩ := hW.2.2.2.1 j (by omega)
    have r1 : I 13 j = F (112 + j) := r1
    have r2 : I 14 j = F (122 + j) := r2
    have w01 := hW.1.2.2.1 j (by omega)
    rw [fX7_weakest_L6, I0, nI_sub1 (by omega) (by omega), if_neg (show ¬ nI (c - 1) ≤ nI j by rw [nI_leP (by omega) (by omega)]; omega), ald_n (by omega) (by omega), ob_s, ald_n (by omega) (by omega), ob_s, has7 (by omega), ob_s, hbr, has_bsl (show j < c - 1 by omega) (by omega), r1, r2, fX8_weakest_L9, ald_0 (by omega) (by omega), K0, ob_s, nI_1, if_neg (show ¬ nI c ≤ nI (j + 1) by rw [nI_leP (by omega) (by omega)]; omega), L132, L112, L122, nI_add, nI_add, nI_add, ald_n (by omega) (by omega), ald_n (by omega) (by omega), ald_n (by omega) (by omega), hF, ob_s, ob_s, ob_s]
    rcases w01 with w | w
    · have hbj : broB F j = false := by unfold broB; rw [w]; rfl
      rw [hbj, b2i_f, if_pos e00, w, if_pos e00]
      rcases hab with ha | ⟨y, hy, ha, hb⟩
      · rw [if_pos ha, if_pos ha, pl2_mk, ob_s]
        exact take
      · have na : ¬ a = -1 := by rw [ha]; exact nI_nm1 (by omega)
        rw [if_neg na, if_neg na, ha, nI_add, nI_add, ald_n (by omega) (by omega), ald_n (by omega) (by omega), ob_s, ob_s, hF, ← hb, ← ha]
        by_cases hl : b ≤ F (112 + j) - F (122 + j)
        · rw [if_pos hl, if_pos hl, pl2_mk, ob_s]
          exact keep
        · rw [if_neg hl, if_neg hl, pl2_mk, ob_s]
          exact take
    · have hbj : broB F j = true := by unfold broB; rw [w]; rfl
      rw [hbj, b2i_t, if_neg n10, w, if_neg n10, pl2_mk, ob_s]
      exact keep
theorem q_22 : eqP_22 Rel := by
  intro n I J hn hR _
  obtain ⟨c, e, ⟨h2, h10, h30, -⟩, ⟨J0, J5, J6⟩, ⟨I0, I7⟩, hW⟩ := hR.facts hn
  have K7 : (wr J 306 0 0) 307 = J 307 := funext fun j => w7
  obtain ⟨r, r1, r2⟩ := weak_st hW K7 (c - 1) 0 zF zF (-1) 0 (by omega) (zF_g (by omega)) (zF_g (by omega)) (Or.inl rfl)
  refine ⟨r, wr J 306 0 0, ?_, ?_, Rel.J0 hR 0⟩
  · unfold fX7_weakest
    rw [show fX7_weakest_L6 zF 0 0 (-1) I = _ from r1]
    rfl
  · unfold fX8_weakest
    rw [show fX8_weakest_L9 zF 0 (-1) (wr J 306 0 0) = _ from r2]
    rfl
theorem q_41 : eqP_41 Rel := by
  intro n I J hn hR p0
  have t0 : (wr J 306 0 0) 306 0 = 0 := wr_s
  obtain ⟨w, hw, w1, w2, w3⟩ := hR.2.2.2.2.2.2
  have w2' : (wr J 306 0 0) 306 26 = nI w := (wr_j (by decide)).trans w2
  unfold fX7_output fX8_output
  rw [w1, w2']
  have hsub : ∀ x : Int32, (x < 0 ∨ nI w ≤ x) → (x < 0 ∨ nI w - 1 < x) := fun x hx => by
    rcases hx with h | h
    · exact Or.inl h
    · refine Or.inr ?_
      have t1 := nI_toInt (n := w) (by omega)
      rw [toInt_le, t1] at h
      rw [toInt_lt', toInt_sub (by rw [t1, toInt_1]; omega) (by rw [t1, toInt_1]; omega), t1, toInt_1]
      omega
  rcases inx (c := w) (by omega) p0 with ⟨j, hj, rfl⟩ | ho
  · refine ⟨0, J 317 j, J 317 j, wr J 306 0 0, ?_, ?_, Rel.J0 hR 0, Or.inl ⟨rfl, wr_s, rfl⟩⟩
    · rw [if_neg (nI_pos (by omega)), if_pos (by rw [nI_ltP (by omega) (by omega)]; omega), ald_n (by omega) (by omega), w3 j hj]
      rfl
    · rw [nI_sub1 (by omega) (by omega), within_i (nI_pos (by omega)) (by rw [nI_ltP (by omega) (by omega)]; omega), ob_s, plet_d, if_neg n10, thr_0 t0, ob2_some, if_pos e00, ald_n (by omega) (by omega), wr_k (by decide)]
      rfl
  · refine ⟨1, 0, 0, wr (wr J 306 0 0) 306 0 1, ?_, ?_, wJ0 hR 1, Or.inr ⟨rfl, wr_s⟩⟩
    · by_cases h : p0 < 0
      · rw [if_pos h]
      · rw [if_neg h, if_neg (nlt_of_le (ho.resolve_left h))]
    · rw [within_o (hsub p0 ho), ob_s, plet_d, if_pos e00, thr_11 t0, ob2_some, if_neg n10]
      rfl
/-! one segment -/
theorem so_run {I : Mem} {F : Row} {c t j : Nat} (I0 : I 2 0 = nI c) (h10 : c ≤ 10) (hB : I 12 0 = brS c F) (ht : t < c) (he : t = c - 1 ∨ bt (brS c F) t = true) :
    ∀ (d b n : Nat) (a : Int32), b + d = t → (∀ x, b ≤ x → x < t → bt (brS c F) x = false) → fX7_segmentOf_L9 (nI j) (n + d + 1) (nI b) a I = (Option.bind (fX7_has (seg1 b (d + 1) a) (nI j)) fun x3 => if x3 = 0 then fX7_segmentOf_L9 (nI j) n (nI (t + 1)) 0 I else some (1, seg1 b (d + 1) a, seg1 b (d + 1) a)) := by
  intro d
  induction d with
  | zero =>
    intro b n a hb hx
    have hbt : b = t := by omega
    subst hbt
    have hd : (decide (b = c - 1) || bt (brS c F) b) = true := by rcases he with h | h <;> simp [h]
    rw [fX7_segmentOf_L9, I0, if_neg (by rw [nI_leP (by omega) (by omega)]; omega), hB, ends_e (b := 1) I0 (by omega) h10 ht, ob_s, hd, b2i_t, if_neg n10, nI_1]
    rfl
  | succ d ih =>
    intro b n a hb hx
    have hxb := hx b (Nat.le_refl _) (by omega)
    have hd : (decide (b = c - 1) || bt (brS c F) b) = false := by rw [hxb]; simp; omega
    rw [show n + (d + 1) + 1 = (n + d + 1) + 1 by omega, fX7_segmentOf_L9, I0, if_neg (by rw [nI_leP (by omega) (by omega)]; omega), hB, ends_e (b := 1) I0 (by omega) h10 (show b < c by omega), ob_s, hd, b2i_f, if_pos e00, nI_1]
    exact ih (b + 1) n (a ||| bit1 b) (by omega) (fun x h1 h2 => hx x (by omega) h2)
theorem seg1_bt {i : Nat} (hi : i < 32) {d j : Nat} (h : j + d ≤ 32) : bt (seg1 j d 0) i = (decide (j ≤ i) && decide (i < j + d)) := by
  have : seg1 j d 0 = bsl (fun _ => true) j d 0 := rfl
  rw [this, b_bsl hi d j 0 h, b_0]
  simp
theorem down_e {J : Mem} {F : Row} {s : Nat} (hF : J 307 = F) (hw : s = 0 ∨ ¬ F (132 + s - 1) = 0) : ∀ (d n : Nat), s + d < 10 → d < n → (∀ x, s ≤ x → x < s + d → F (132 + x) = 0) → fX8_segmentOf_L17 (nI (s + d)) n (nI (s + d)) J = some (nI s) → True := fun _ _ _ _ _ _ => trivial
theorem down_L {J : Mem} {F : Row} {s : Nat} {p : Int32} (hF : J 307 = F) (hw : s = 0 ∨ ¬ F (132 + (s - 1)) = 0) : ∀ (d n : Nat), s + d < 10 → d < n → (∀ x, s ≤ x → x < s + d → F (132 + x) = 0) → fX8_segmentOf_L17 p n (nI (s + d)) J = some (nI s) := by
  intro d
  induction d with
  | zero =>
    intro n hs hn hx
    obtain ⟨n, rfl⟩ := fuel hn
    rw [fX8_segmentOf_L17, Nat.add_zero]
    by_cases h0 : s = 0
    · subst h0
      rw [if_pos (show nI 0 ≤ 0 by decide)]
    · rw [if_neg (nI_nle (by omega) (by omega)), L132, nI_add, nI_sub1 (by omega) (by omega), ald_n (by omega) (by omega), hF, ob_s, show 132 + s - 1 = 132 + (s - 1) by omega, if_neg (hw.resolve_left h0)]
  | succ d ih =>
    intro n hs hn hx
    obtain ⟨n, rfl⟩ := fuel hn
    have em : nI (s + (d + 1)) + (-1) = nI (s + d) := by
      have : nI (s + (d + 1)) - 1 = nI (s + d) := nI_sub1 (by omega) (by omega)
      rw [← this, Int32.sub_eq_add_neg]
    rw [fX8_segmentOf_L17, if_neg (nI_nle (by omega) (by omega)), L132, nI_add, nI_sub1 (by omega) (by omega), ald_n (by omega) (by omega), hF, ob_s, show 132 + (s + (d + 1)) - 1 = 132 + (s + d) by omega, if_pos (hx (s + d) (by omega) (by omega)), em]
    exact ih n (by omega) (by omega) (fun x h1 h2 => hx x h1 (by omega))
theorem lst_mid {c s j : Nat} {B : Int32} (hs : s ≤ j) (hj : j ≤ lst c B s) (hsc : s < c) : lst c B j = lst c B s := by
  obtain ⟨p1, p2, p3, p4⟩ := lst_p (c := c) (B := B) hsc
  obtain ⟨q1, q2, q3, q4⟩ := lst_p (c := c) (B := B) (show j < c by omega)
  rcases Nat.lt_trichotomy (lst c B j) (lst c B s) with h | h | h
  · exfalso
    rcases q4 with q4 | q4
    · omega
    · rw [p3 _ (by omega) h] at q4
      cases q4
  · exact h
  · exfalso
    rcases p4 with p4 | p4
    · omega
    · rw [q3 _ (by omega) h] at p4
      cases p4
theorem so_all {I J : Mem} {F : Row} {c e j : Nat} (hW : EW c e I 1 F) (hF : J 307 = F) (hj : j < c) : ∀ (k s n : Nat), s + k = c → k < n → s ≤ j → (s = 0 ∨ bt (brS c F) (s - 1) = true) →
    ∃ x y, fX7_segmentOf_L9 (nI j) n (nI s) 0 I = some (1, x, y) ∧ ∃ s', s' ≤ j ∧ x = seg1 s' (lst c (brS c F) j + 1 - s') 0 ∧ (∀ m, 10 < m → fX8_segmentOf_L17 (nI j) m (nI j) J = some (nI s')) ∧ s' ≤ lst c (brS c F) j := by
  have h10 := hW.c10
  have I0 : I 2 0 = nI c := hW.2.1.1
  have hbr : I 12 0 = brS c F := hW.2.1.2.2.2.2.2.2.2.2.2.2.1
  have hbF : ∀ x, x < c - 1 → (bt (brS c F) x = false ↔ F (132 + x) = 0) := fun x hx => by
    rw [show bt (brS c F) x = broB F x from has_bsl hx (by omega)]
    unfold broB
    rcases hW.1.2.2.1 x (by omega) with h | h <;> rw [h] <;> decide
  intro k
  induction k using Nat.strongRecOn with
  | _ k ih =>
    intro s n hs hn hsj hst
    obtain ⟨p1, p2, p3, p4⟩ := lst_p (c := c) (B := brS c F) (j := s) (by omega)
    have hrun := so_run (j := j) I0 h10 hbr p2 p4 (lst c (brS c F) s - s) s (n - (lst c (brS c F) s - s) - 1) 0 (by omega) p3
    rw [show n - (lst c (brS c F) s - s) - 1 + (lst c (brS c F) s - s) + 1 = n by omega, show lst c (brS c F) s - s + 1 = lst c (brS c F) s + 1 - s by omega, has7 (by omega), ob_s, seg1_bt (by omega) (by omega), show s + (lst c (brS c F) s + 1 - s) = lst c (brS c F) s + 1 by omega] at hrun
    by_cases hin : j ≤ lst c (brS c F) s
    · have hd : (decide (s ≤ j) && decide (j < lst c (brS c F) s + 1)) = true := by simp; omega
      rw [hd, b2i_t, if_neg n10] at hrun
      refine ⟨_, _, hrun, s, hsj, ?_, fun m hm => ?_, ?_⟩
      · rw [lst_mid hsj hin (by omega)]
      · have hw : s = 0 ∨ ¬ F (132 + (s - 1)) = 0 := hst.imp id (fun h h2 => by
          by_cases h0 : s = 0
          · subst h0
            rw [show (0 - 1) = 0 by omega] at h
            by_cases hc1 : 0 < c - 1
            · rw [(hbF 0 hc1).mpr h2] at h; cases h
            · rw [show bt (brS c F) 0 = false from bsl_hi (by omega) (by omega)] at h; cases h
          · rw [(hbF (s - 1) (by omega)).mpr h2] at h; cases h)
        have := down_L (p := nI j) hF hw (j - s) m (by omega) (by omega) (fun x h1 h2 => (hbF x (by omega)).mp (p3 x h1 (by omega)))
        rw [show s + (j - s) = j by omega] at this
        exact this
      · rw [lst_mid hsj hin (by omega)]; omega
    · have hd : (decide (s ≤ j) && decide (j < lst c (brS c F) s + 1)) = false := by simp; omega
      rw [hd, b2i_f, if_pos e00] at hrun
      rw [hrun]
      exact ih (c - (lst c (brS c F) s + 1)) (by omega) (lst c (brS c F) s + 1) _ (by omega) (by omega) (by omega) (Or.inr (by
        rw [show lst c (brS c F) s + 1 - 1 = lst c (brS c F) s by omega]
        rcases p4 with h | h
        · omega
        · exact h))
theorem q_21 : eqP_21 Rel := by
  intro n I J hn hR p0
  obtain ⟨c, e, ⟨h2, h10, h30, -⟩, ⟨J0, J5, J6⟩, ⟨I0, I7⟩, hW⟩ := hR.facts hn
  have t0 : (wr J 306 0 0) 306 0 = 0 := wr_s
  have K0 : (wr J 306 0 0) 307 0 = nI c := w7.trans J0
  have K7 : (wr J 306 0 0) 307 = J 307 := funext fun j => w7
  unfold fX7_segmentOf fX8_segmentOf
  rcases inx (c := c) (by omega) p0 with ⟨j, hj, rfl⟩ | ho
  · obtain ⟨x, y, r1, s', r2, r3, r4, r5⟩ := so_all hW K7 hj c 0 zF (by omega) (zF_g (by omega)) (Nat.zero_le _) (Or.inl rfl)
    obtain ⟨p1, p2, -, -⟩ := lst_p (c := c) (B := brS c (J 307)) hj
    refine ⟨0, x, x, wr J 306 0 0, ?_, ?_, Rel.J0 hR 0, Or.inl ⟨rfl, wr_s, rfl⟩⟩
    · rw [chkB_i I0 h10 hj, ob_s, if_pos rfl, show fX7_segmentOf_L9 (nI j) zF 0 0 I = _ from r1]
      rfl
    · rw [noB_i t0 K0 h10 hj, ob2_some, if_pos rfl, r4 zF (zF_g (by omega)), ob_s, brok_e K0 (by omega) h10, ob_s, K7, show bsl (broB (J 307)) 0 (c - 1) 0 = brS c (J 307) from rfl, lst_e K0 h10 hj, ob_s, setOf_0 _ (by omega) _ (by omega) r5, r3]
      rfl
  · refine ⟨1, 0, 0, wr (wr J 306 0 0) 306 0 1, ?_, ?_, wJ0 hR 1, Or.inr ⟨rfl, wr_s⟩⟩
    · rw [chkB_o I0 ho, ob_s, if_neg (by decide)]
    · rw [noB_o t0 K0 (by omega) h10 ho, ob2_some, if_neg (by decide)]
