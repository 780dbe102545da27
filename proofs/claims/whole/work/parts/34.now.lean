/-! MEAN LEVEL, AGREEMENT, THE LEVEL OF NOW -/
theorem q_15 : eqP_15 Rel := by
  intro n I J hn hR _
  obtain ⟨c, e, ⟨h2, h10, h30, -⟩, ⟨J0, J5, J6⟩, ⟨I0, I7⟩, hW⟩ := hR.facts hn
  have K5 : (wr J 306 0 0) 307 5 = nI e := w7.trans J5
  have K6 : (wr J 306 0 0) 307 6 = nI (min e 24) := w7.trans J6
  have K7 : (wr J 306 0 0) 307 = J 307 := funext fun j => w7
  have hlv : ∀ (d j : Nat) (k : Nat), e ≤ j + 24 → j + d ≤ e → ∃ k', k' ≤ k + d ∧ itr (fun h a => a + J 307 (hp e h + 2)) j d (nI k) = nI k' := by
    intro d
    induction d with
    | zero => intro j k _ _; exact ⟨k, by omega, rfl⟩
    | succ d ih =>
      intro j k h24 hj
      have lv := (hW.1.2.2.2 j (by unfold kept; omega)).2.2.1
      rcases lv with lv | lv
      · obtain ⟨k', a1, a2⟩ := ih (j + 1) k (by omega) (by omega)
        refine ⟨k', by omega, ?_⟩
        show itr _ (j + 1) d (nI k + J 307 (hp e j + 2)) = _
        rw [lv, Int32.add_zero]
        exact a2
      · obtain ⟨k', a1, a2⟩ := ih (j + 1) (k + 1) (by omega) (by omega)
        refine ⟨k', by omega, ?_⟩
        show itr _ (j + 1) d (nI k + J 307 (hp e j + 2)) = _
        rw [lv, nI_1]
        exact a2
  obtain ⟨k, hk, hk2⟩ := hlv (min e 24) (e - 24) 0 (by omega) (by omega)
  have hk2 : itr (fun h a => a + J 307 (hp e h + 2)) (e - 24) (min e 24) 0 = nI k := hk2
  have h7 : fX7_hoursWithLevel I = some (nI k) := by
    rw [hwl_e I7 h30, ← hk2]
    congr 1
    apply itr_congr
    intro i a h1 h3
    rw [show I 18 (i % 24) = _ from (hW.2.2.2.2 i (by unfold kept; omega)).2.2.1]
  have h8 : fX8_levelled (wr J 306 0 0) = some (nI k) := by
    rw [lvd_e K5 K6 h30, K7, hk2]
  have hsum : ∀ (d j n m : Nat) (a p : Int32), e ≤ j + 24 → j + d = e → d < n → d < m → ∃ r, fX7_meanLevel_L21 p n (nI j) a I = some r ∧ fX8_meanLevel_L12 m (nI j) a (wr J 306 0 0) = some r := by
    intro d
    induction d with
    | zero =>
      intro j n m a p h24 hj hn hm
      obtain ⟨n, rfl⟩ := fuel hn
      obtain ⟨m, rfl⟩ := fuel hm
      refine ⟨a, ?_, ?_⟩
      · rw [fX7_meanLevel_L21, I7, if_pos (by rw [nI_leP (by omega) (by omega)]; omega)]
      · rw [fX8_meanLevel_L12, L5, ald_n (by omega) (by omega), K5, ob_s, if_pos (by rw [nI_leP (by omega) (by omega)]; omega)]
    | succ d ih =>
      intro j n m a p h24 hj hn hm
      obtain ⟨n, rfl⟩ := fuel hn
      obtain ⟨m, rfl⟩ := fuel hm
      have k : kept e j := by unfold kept; omega
      have hr : j % 24 < 24 := Nat.mod_lt _ (by omega)
      have e3 : I 18 (j % 24) = J 307 (hp e j + 2) := (hW.2.2.2.2 j k).2.2.1
      have e4 : I 19 (j % 24) = J 307 (hp e j + 5) := (hW.2.2.2.2 j k).2.2.2.1
      have lv := (hW.1.2.2.2 j k).2.2.1
      have o2 : fX8_of (nI j) 2 (wr J 306 0 0) = some (J 307 (hp e j + 2)) := (of_e (w := 2) K5 K6 h30 k (by omega)).trans (by rw [w7])
      have o5 : fX8_of (nI j) (nI 5) (wr J 306 0 0) = some (J 307 (hp e j + 5)) := (of_e (w := 5) K5 K6 h30 k (by omega)).trans (by rw [w7])
      have nej : ¬ nI e ≤ nI j := by rw [nI_leP (by omega) (by omega)]; omega
      rw [fX7_meanLevel_L21, I7, if_neg nej, row_e (by omega), ob_s, ald_n hr (by omega), ob_s, e3, ald_n hr (by omega), e4, fX8_meanLevel_L12, L5, ald_n (by omega) (by omega), K5, o2, o5, nI_1]
      simp only [ob_s]
      rw [if_neg nej]
      rcases lv with lv | lv
      · rw [lv, if_neg n01, if_neg n01, ob_s, ob_s, Int32.add_zero]
        exact ih (j + 1) n m a p (by omega) (by omega) (by omega) (by omega)
      · rw [lv, if_pos e11, if_pos e11, ob_s, ob_s]
        exact ih (j + 1) n m _ p (by omega) (by omega) (by omega) (by omega)
  obtain ⟨s, s1, s2⟩ := hsum (min e 24) (e - 24) zF zF 0 (nI k) (by omega) (by omega) (zF_g (by omega)) (zF_g (by omega))
  unfold fX7_meanLevel fX8_meanLevel
  rw [h7, ob_s, fh_e K5 K6 h30, ob_s, s2, ob_s, h8, ob_s, ob_s, fk_e (b := 1) I7 h30, ob_s, s1, ob_s]
  by_cases h0 : k = 0
  · subst h0
    rw [if_pos (show nI 0 = 0 from rfl)]
    exact ⟨0, wr J 306 0 0, rfl, rfl, Rel.J0 hR 0⟩
  · rw [if_neg (nI_ne0 (by omega) (by omega))]
    obtain ⟨r, hr⟩ := fp_ddiv (a := s) (n := k) (by omega) (by omega)
    rw [hr]
    exact ⟨r, wr J 306 0 0, rfl, rfl, Rel.J0 hR 0⟩
theorem vot_z {c : Nat} {F : Row} {s : Int32} (h10 : c ≤ 10) (hV : ∀ j, j < c → bd 1 9 (F (22 + j))) (hs : ∀ i, c ≤ i → bt s i = false) : (vsum (fun j => F (22 + j)) (bt s) 0 c 0 = 0 ↔ s = 0) ∧ ∃ k, k < 91 ∧ vsum (fun j => F (22 + j)) (bt s) 0 c 0 = nI k := by
  have key : ∀ d, d ≤ c → ∃ k, k ≤ 9 * d ∧ vsum (fun j => F (22 + j)) (bt s) 0 d 0 = nI k ∧ (k = 0 → ∀ i, i < d → bt s i = false) := by
    intro d
    induction d with
    | zero => intro _; exact ⟨0, by omega, rfl, fun _ i hi => absurd hi (by omega)⟩
    | succ d ih =>
      intro hd
      obtain ⟨k, a1, a2, a3⟩ := ih (by omega)
      rw [vsum_succ, a2]
      cases hb : bt s d
      · refine ⟨k, by omega, rfl, fun h i hi => ?_⟩
        by_cases hi2 : i = d
        · rw [hi2]; exact hb
        · exact a3 h i (by omega)
      · have hv := hV d (by omega)
        unfold bd at hv
        obtain ⟨x, hx1, hx2⟩ := nI_of (x := F (22 + d)) (by rw [toInt_lt', toInt_0]; omega)
        have hx3 := nI_toInt (n := x) hx1
        rw [← hx2] at hx3
        refine ⟨k + x, by omega, ?_, fun h => by omega⟩
        rw [if_pos rfl, hx2, nI_add]
  obtain ⟨k, a1, a2, a3⟩ := key c (Nat.le_refl _)
  refine ⟨⟨fun h => ?_, fun h => ?_⟩, k, by omega, a2⟩
  · have hk : k = 0 := by
      rw [a2] at h
      rwa [nI_eq0 (by omega)] at h
    apply b_ext
    intro i _
    rw [b_0]
    by_cases hi : i < c
    · exact a3 hk i hi
    · exact hs i (by omega)
  · subst h
    unfold vsum
    exact itr_id _ _ _ fun i a _ _ => by rw [b_0]; rfl
theorem q_16 : eqP_16 Rel := by
  intro n I J hn hR p0
  obtain ⟨c, e, ⟨h2, h10, h30, -⟩, ⟨J0, J5, J6⟩, ⟨I0, I7⟩, hW⟩ := hR.facts hn
  have t0 : (wr J 306 0 0) 306 0 = 0 := wr_s
  have K0 : (wr J 306 0 0) 307 0 = nI c := w7.trans J0
  have K5 : (wr J 306 0 0) 307 5 = nI e := w7.trans J5
  have K6 : (wr J 306 0 0) 307 6 = nI (min e 24) := w7.trans J6
  have K7 : (wr J 306 0 0) 307 = J 307 := funext fun j => w7
  unfold fX7_agreement fX8_agreement
  rcases inK h30 p0 with ⟨h, k, rfl⟩ | ho
  · have hr : h % 24 < 24 := Nat.mod_lt _ (by omega)
    have e1 : I 16 (h % 24) = J 307 (hp e h) := (hW.2.2.2.2 h k).1
    have e2 : I 17 (h % 24) = J 307 (hp e h + 1) := (hW.2.2.2.2 h k).2.1
    have hs := (hW.1.2.2.2 h k).1
    have o0 : fX8_of (nI h) 0 (wr J 306 0 0) = some (J 307 (hp e h)) := (of_e (w := 0) K5 K6 h30 k (by omega)).trans (by rw [w7, Nat.add_zero])
    have o1 : fX8_of (nI h) 1 (wr J 306 0 0) = some (J 307 (hp e h + 1)) := (of_e (w := 1) K5 K6 h30 k (by omega)).trans (by rw [w7])
    obtain ⟨vz, y, hy, hy2⟩ := vot_z (s := J 307 (hp e h)) h10 (fun j hj => (hW.1.2.1 j hj).1) hs
    have ev : ∀ s : Int32, fX0_votesOf 1 s I = some (vsum (fun j => J 307 (22 + j)) (bt s) 0 c 0) := fun s => by
      rw [vof_e (b := 1) I0 h10]
      congr 1
      exact vsum_cong fun i _ hi => ⟨(hW.2.2.1 i (by omega)).2.1, rfl⟩
    have ev8 : ∀ s : Int32, fX8_votes s (wr J 306 0 0) = some (vsum (fun j => J 307 (22 + j)) (bt s) 0 c 0) := fun s => by
      rw [vot_e K0 h10]
      congr 1
    rw [rok_i I7 h30 k, noH_i t0 K5 K6 h30 k, ob2_some, if_pos rfl, ob2_some, if_pos rfl, ald_n hr (by omega), ob_s, e1, ev, ob_s, ald_n hr (by omega), ob_s, e2, ev, ob_s, o0, ob_s, o1, ob_s, ev8, ob_s, ob_s, ev8, ob_s]
    by_cases hz : J 307 (hp e h) = 0
    · rw [if_pos (vz.mpr hz), if_pos hz]
      exact ⟨0, 0, 0, wr J 306 0 0, rfl, rfl, Rel.J0 hR 0, Or.inl ⟨rfl, wr_s, rfl, fp_zero⟩⟩
    · have hy0 : 0 < y := by
        by_cases h0 : y = 0
        · subst h0
          exact absurd (vz.mp hy2) hz
        · omega
      rw [if_neg (fun h => hz (vz.mp h)), if_neg hz, hy2]
      obtain ⟨r, hr1, hr2⟩ := fp_fdiv (a := vsum (fun j => J 307 (22 + j)) (bt (J 307 (hp e h + 1))) 0 c 0) hy0 hy
      rw [hr1]
      exact ⟨0, r, r, wr J 306 0 0, rfl, rfl, Rel.J0 hR 0, Or.inl ⟨rfl, wr_s, rfl, hr2⟩⟩
  · refine ⟨1, 0, 0, wr (wr J 306 0 0) 306 0 1, ?_, ?_, wJ0 hR 1, Or.inr ⟨rfl, wr_s⟩⟩
    · rw [rok_o I7 h30 ho, ob2_some, if_neg (by decide)]
    · rw [noH_o t0 K5 K6 h30 ho, ob2_some, if_neg (by decide)]
/-! values of now -/
def vnow (F : Row) (j : Nat) : Int32 := if hasB F j then F (102 + j) - F (42 + j) else 0
theorem vnow_bd {c : Nat} {F : Row} (hb : WFb c F) {j : Nat} (hj : j < c) : bd (-10098) 10098 (vnow F j) := by
  obtain ⟨-, -, h3, -, -, h6⟩ := hb j hj
  unfold bd at *
  unfold vnow
  split
  · rw [toInt_sub (by omega) (by omega)]
    omega
  · rw [toInt_0]
    omega
theorem tv_L {c N st b k1 : Nat} {F : Row} (h10 : c ≤ 10) (hk1 : k1 ≠ b + 1 ∧ k1 ≠ b + 5 ∧ k1 ≠ b + 10) (l1 : zb_ln k1 = N) (hN : N < 2 ^ 20) (hst : st + 10 ≤ N) : ∀ (d j n : Nat) (I : Mem), j + d = c → d < n → I (b + 1) 0 = nI c → I (b + 1) 1 = bsl (hasB F) 0 c 0 → (∀ i, i < c → I (b + 10) i = F (102 + i) ∧ I (b + 5) i = F (42 + i)) →
    ∃ I', fX0_tellValues_L2 b k1 (nI st) n (nI j) I = some I' ∧ (∀ k i, ¬ (k = k1 ∧ st ≤ i ∧ i < st + c) → I' k i = I k i) ∧ (∀ i, i < c → I' k1 (st + i) = if j ≤ i then vnow F i else I k1 (st + i)) := by
  intro d
  induction d with
  | zero =>
    intro j n I hj hn hc hr hv
    obtain ⟨n, rfl⟩ := fuel hn
    exact ⟨I, by rw [fX0_tellValues_L2, hc, if_pos (by rw [nI_leP (by omega) (by omega)]; omega)], fun _ _ _ => rfl, fun i hi => by rw [if_neg (by omega)]⟩
  | succ d ih =>
    intro j n I hj hn hc hr hv
    obtain ⟨n, rfl⟩ := fuel hn
    obtain ⟨v1, v2⟩ := hv j (by omega)
    have hstep : fX0_tellValues_L2 b k1 (nI st) (n + 1) (nI j) I = fX0_tellValues_L2 b k1 (nI st) n (nI (j + 1)) (wr I k1 (st + j) (vnow F j)) := by
      rw [fX0_tellValues_L2, hc, if_neg (show ¬ nI c ≤ nI j by rw [nI_leP (by omega) (by omega)]; omega), if_neg (nI_pos (by omega)), l1, ofN, nI_add, if_neg (show ¬ nI N ≤ nI (st + j) by rw [nI_leP (by omega) (by omega)]; omega), has7 (by omega), ob_s, hr, has_bsl (show j < c by omega) (by omega), ald_n (by omega) (by omega), ob_s, ald_n (by omega) (by omega), ob_s, v1, v2, nI_1]
      unfold vnow
      cases hasB F j
      · rw [b2i_f, if_pos e00, ob_s, ast_n (by omega) (by omega)]
        rfl
      · rw [b2i_t, if_neg n10, ob_s, ast_n (by omega) (by omega)]
        rfl
    rw [hstep]
    obtain ⟨I', a1, a2, a3⟩ := ih (j + 1) n (wr I k1 (st + j) (vnow F j)) (by omega) (by omega) ((wr_k (by omega)).trans hc) ((wr_k (by omega)).trans hr) (fun i hi => ⟨(wr_k (by omega)).trans (hv i hi).1, (wr_k (by omega)).trans (hv i hi).2⟩)
    refine ⟨I', a1, fun k i hk => ?_, fun i hi => ?_⟩
    · rw [a2 k i hk]
      simp only [wr]
      rw [if_neg (by omega)]
    · rw [a3 i hi]
      by_cases h : j + 1 ≤ i
      · rw [if_pos h, if_pos (by omega)]
      · rw [if_neg h]
        by_cases h' : i = j
        · subst h'; rw [wr_s, if_pos (Nat.le_refl _)]
        · rw [wr_j (by omega), if_neg (by omega)]
theorem tv_e {c e N st b k1 : Nat} {F : Row} {I : Mem} (hW : EW c e I b F) (hk1 : k1 ≠ b + 1 ∧ k1 ≠ b + 5 ∧ k1 ≠ b + 10) (l1 : zb_ln k1 = N) (hN : N < 2 ^ 20) (hst : st + 10 ≤ N) :
    ∃ I', fX0_tellValues b k1 (nI st) I = some I' ∧ (∀ k i, ¬ (k = k1 ∧ st ≤ i ∧ i < st + c) → I' k i = I k i) ∧ (∀ i, i < c → I' k1 (st + i) = vnow F i) := by
  obtain ⟨I', a1, a2, a3⟩ := tv_L hW.c10 hk1 l1 hN hst c 0 zF I (by omega) (zF_g (by have := hW.c10; omega)) hW.2.1.1 hW.2.1.2.2.2.2.2.2.2.2.2.2.2 (fun i hi => ⟨(hW.2.2.1 i hi).2.2.2.2.2.2.2.2, (hW.2.2.1 i hi).2.2.2.1⟩)
  refine ⟨I', ?_, a2, fun i hi => by rw [a3 i hi, if_pos (Nat.zero_le _)]⟩
  unfold fX0_tellValues
  rw [show fX0_tellValues_L2 b k1 (nI st) zF 0 I = _ from a1]
  rfl
def rpB (F : Row) (t : Int32) (j : Nat) : Bool := hasB F j && (decide (t = -1) || decide (F (52 + j) = t))
theorem rp_L {c : Nat} {F : Row} {t : Int32} (h10 : c ≤ 10) (hc : F 0 = nI c) : ∀ (d j n : Nat) (a : Int32) (J : Mem), j + d = c → d < n → J 307 = F →
    ∃ J', fX8_reporters_L4 t n (nI j) a J = some (bsl (rpB F t) j d a, J') ∧ (∀ k i, k ≠ 315 → J' k i = J k i) ∧ (∀ i, i < c → J' 315 i = if j ≤ i then vnow F i else J 315 i) := by
  intro d
  induction d with
  | zero =>
    intro j n a J hj hn hF
    obtain ⟨n, rfl⟩ := fuel hn
    exact ⟨J, by rw [fX8_reporters_L4, ald_0 (by omega) (by omega), hF, hc, ob_s, if_pos (by rw [nI_leP (by omega) (by omega)]; omega)]; rfl, fun _ _ _ => rfl, fun i hi => by rw [if_neg (by omega)]⟩
  | succ d ih =>
    intro j n a J hj hn hF
    obtain ⟨n, rfl⟩ := fuel hn
    have hs7 : ∀ v, wr J 315 j v 307 = F := fun v => by rw [← hF]; exact funext fun i => wr_k (by decide)
    have hstep : fX8_reporters_L4 t (n + 1) (nI j) a J = fX8_reporters_L4 t n (nI (j + 1)) (if rpB F t j = true then a ||| bit1 j else a) (wr J 315 j (vnow F j)) := by
      rw [fX8_reporters_L4, ald_0 (by omega) (by omega), hF, hc, ob_s, if_neg (show ¬ nI c ≤ nI j by rw [nI_leP (by omega) (by omega)]; omega), L92, L102, L42, L52, nI_add, nI_add, nI_add, nI_add, ald_n (by omega) (by omega), ob_s, ald_n (by omega) (by omega), ob_s, ald_n (by omega) (by omega), ob_s, hF, nI_1]
      unfold rpB vnow hasB
      by_cases h1 : F (92 + j) = 1
      · rw [if_pos h1, ob_s, ast_n (by omega) (by omega), ob_s, ald_n (by omega) (by omega), hs7, ob_s, if_pos h1, ald_n (by omega) (by omega), hs7, ob_s, h1]
        by_cases ht : t = -1
        · rw [if_pos ht, ob_s]
          simp [ht, bit1]
        · rw [if_neg ht]
          by_cases h5 : F (52 + j) = t
          · rw [if_pos h5, ob_s]
            simp [h5, bit1]
          · rw [if_neg h5, ob_s]
            simp [h5, ht]
      · rw [if_neg h1, ob_s, ast_n (by omega) (by omega), ob_s, ald_n (by omega) (by omega), hs7, ob_s, if_neg h1, ob_s]
        simp [h1]
    rw [hstep]
    obtain ⟨J', a1, a2, a3⟩ := ih (j + 1) n (if rpB F t j = true then a ||| bit1 j else a) (wr J 315 j (vnow F j)) (by omega) (by omega) (hs7 _)
    refine ⟨J', a1, fun k i hk => (a2 k i hk).trans (wr_k hk), fun i hi => ?_⟩
    rw [a3 i hi]
    by_cases h : j + 1 ≤ i
    · rw [if_pos h, if_pos (by omega)]
    · rw [if_neg h]
      by_cases h' : i = j
      · subst h'; rw [wr_s, if_pos (Nat.le_refl _)]
      · rw [wr_j h', if_neg (by omega)]
theorem rp_e {c : Nat} {F : Row} {t : Int32} {J : Mem} (h10 : c ≤ 10) (hc : F 0 = nI c) (hF : J 307 = F) : ∃ J', fX8_reporters t J = some (bsl (rpB F t) 0 c 0, J') ∧ (∀ k i, k ≠ 315 → J' k i = J k i) ∧ (∀ i, i < c → J' 315 i = vnow F i) := by
  obtain ⟨J', a1, a2, a3⟩ := rp_L (t := t) h10 hc c 0 zF 0 J (by omega) (zF_g (by omega)) hF
  refine ⟨J', ?_, a2, fun i hi => by rw [a3 i hi, if_pos (Nat.zero_le _)]⟩
  unfold fX8_reporters
  rw [show fX8_reporters_L4 t zF 0 0 J = _ from a1]
  rfl
/-- voters of now -/
theorem vtr {c e : Nat} {F : Row} {I : Mem} (hW : EW c e I 1 F) : I 2 1 &&& bsl (fun j => decide (I (1 + 6) j = 0)) 0 c 0 = bsl (rpB F 0) 0 c 0 := by
  have h10 := hW.c10
  rw [show I 2 1 = _ from hW.2.1.2.2.2.2.2.2.2.2.2.2.2]
  apply b_ext
  intro i hi
  rw [b_and, b_bsl hi _ _ _ (by omega), b_bsl hi _ _ _ (by omega), b_bsl hi _ _ _ (by omega), b_0]
  by_cases h : i < c
  · rw [(hW.2.2.1 i h).2.2.2.2.1]
    unfold rpB
    simp [h]
  · simp [h]
theorem q_17 : eqP_17 Rel := by
  intro n I J hn hR _
  obtain ⟨c, e, ⟨h2, h10, h30, -⟩, ⟨J0, J5, J6⟩, ⟨I0, I7⟩, hW⟩ := hR.facts hn
  have t0 : (wr J 306 0 0) 306 0 = 0 := wr_s
  have K7 : (wr J 306 0 0) 307 = J 307 := funext fun j => w7
  obtain ⟨I1, a1, a2, a3⟩ := tv_e (k1 := 55) (N := 10) (st := 0) hW (by decide) zl55 (by omega) (by omega)
  have hW1 : EW c e I1 1 (J 307) := hW.cong (fun k j hr => a2 _ _ (by unfold rng at hr; omega)) (fun _ _ => rfl)
  have b3 : I1 1 3 = J 307 1 := hW1.2.1.2.1
  obtain ⟨J1, r1, r2, r3⟩ := rp_e (t := 0) (J := wr J 306 0 0) h10 J0 K7
  have f7 : J1 307 = J 307 := (funext fun j => r2 307 j (by decide)).trans K7
  have hhi : ∀ i, c ≤ i → bt (bsl (rpB (J 307) 0) 0 c 0) i = false := fun i hi => bsl_hi (by omega) hi
  have hvb := fun j hj => vnow_bd hW.1.2.1 (j := j) hj
  obtain ⟨I2, c1, c2, c3, c4, c5⟩ := cnt_e (k2 := 4) (k3 := 55) (N := 10) (st := 0) (c := c) (s := bsl (rpB (J 307) 0) 0 c 0) (tol := J 307 1) (V := qV (J 307)) (W := vnow (J 307)) (I := I1) (by decide) (by decide) zl4 zl55 (by omega) (by omega) hhi (fun i hi => (hW1.2.2.1 i hi).2.1) (fun i hi _ => a3 i hi) ⟨h10, fun j hj _ => ⟨(hW.1.2.1 j hj).1, hvb j hj⟩⟩ hW.bt1
  have hWJ : EW c e I 1 (J1 307) := by rw [f7]; exact hW
  obtain ⟨J2, d1, d2, d3, d4, d5⟩ := tRow (s := bsl (rpB (J 307) 0) 0 c 0) (W := vnow (J 307)) hWJ (fun i hi _ => r3 i hi) (fun i hi _ => hvb i hi)
  rw [f7] at d4 d5
  have t1 : J2 306 0 = 0 := (d2 _ _ (by omega)).trans ((r2 _ _ (by decide)).trans wr_s)
  have hI : ∀ k j, ¬ qI k j → I2 k j = I k j := fun k j hq => (c2 k j (by unfold qI at hq; omega)).trans (a2 k j (by unfold qI at hq; omega))
  have hJ : ∀ k j, ¬ qJ k j → J2 k j = J k j := fun k j hq => by
    have g1 : ¬ (k = 306 ∧ j = 0) := fun hh => hq (by unfold qJ; omega)
    have g2 : ¬ (k = 306 ∧ 19 ≤ j ∧ j ≤ 21) := fun hh => hq (by unfold qJ; omega)
    have g3 : k ≠ 315 := fun hh => hq (by unfold qJ; omega)
    rw [d2 k j g2, r2 k j g3]
    simp only [wr, if_neg g1]
  have hRR : Rel (n + 6) I2 J2 := hR.cong (by omega) hI hJ
  have hRv : Rel (n + 6) I2 (wr J2 306 0 1) := hR.cong (by omega) hI (fun k j hq => by
    have g1 : ¬ (k = 306 ∧ j = 0) := fun hh => hq (by unfold qJ; omega)
    simp only [wr, if_neg g1]
    exact hJ k j hq)
  unfold fX7_levelNow fX8_levelNow
  rw [show fX0_tellValues 1 55 0 I = _ from a1, ob_s, memb_e (b := 1) hW1.2.1.1 h10, ob_s, vtr hW1, b3, show fX6_count 4 55 (bsl (rpB (J 307) 0) 0 c 0) 0 (J 307 1) I1 = _ from c1, ob_s, r1, ob2_some, d1, ob_s, c4, d4, plet_d]
  have eqH : tHas c (bsl (rpB (J 307) 0) 0 c 0) (qV (J 307)) (vnow (J 307)) (J 307 1) (tMid c (bsl (rpB (J 307) 0) 0 c 0) (qV (J 307)) (vnow (J 307)) 100000) = xHas c (J 307) (vnow (J 307)) (bsl (rpB (J 307) 0) 0 c 0) := rfl
  rw [eqH]
  cases hh : xHas c (J 307) (vnow (J 307)) (bsl (rpB (J 307) 0) 0 c 0)
  · refine ⟨4, 0, I2, 0, wr J2 306 0 1, by rw [b2i_f, if_pos rfl], ?_, hRv, Or.inr ⟨rfl, wr_s⟩⟩
    rw [b2i_f, if_pos rfl, thr_11 t1, ob2_some, plet_d, if_neg n10]
  · refine ⟨0, I2 52 2, I2, J2 306 21, J2, by rw [b2i_t, if_neg n10], ?_, hRR, Or.inl ⟨rfl, t1, by rw [c5, d5]; rfl⟩⟩
    rw [b2i_t, if_neg n10, thr_0 t1, ob2_some, plet_d, if_pos rfl]
