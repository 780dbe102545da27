/-! ACTS ON ONE BUOY, TERMS, ROPES REMADE -/
theorem ew_setOffset {c e b : Nat} {I J : Mem} {v : Int32} (hW1 : EW c e I 1 (J 307)) (hb : b < c) (hv : bd (-99) 99 v) : EW c e (wr I 6 b v) 1 (wr J 307 (42 + b) v 307) := by
  have h10 := hW1.c10
  obtain ⟨⟨w1, w2, w3, w4⟩, q1, q2, q3, q4⟩ := hW1
  refine ⟨⟨w1.cg (fun i h1 h2 => by simp (disch := omega) only [wr_n]), ?_, w3.cg h10 (fun i h1 h2 => by simp (disch := omega) only [wr_n]), w4.cg h10 (fun i h1 h2 => by simp (disch := omega) only [wr_n])⟩, q1.cg h10 (fun j h1 h2 => by simp (disch := omega) only [wr_n]) (by simp (disch := omega) only [wr_n]) (by simp (disch := omega) only [wr_n]) (by simp (disch := omega) only [wr_n]) (fun i h1 h2 h3 => by simp (disch := omega) only [wr_n]) (fun i h1 h2 => by simp (disch := omega) only [wr_n]) (fun i h1 h2 => by simp (disch := omega) only [wr_n]), ?_, q3.cg h10 (fun k j h1 h2 h3 => by simp (disch := omega) only [wr_n]) (fun i h1 h2 => by simp (disch := omega) only [wr_n]), q4.cg h10 (fun k j h1 h2 => by simp (disch := omega) only [wr_n]) (fun i h1 h2 => by simp (disch := omega) only [wr_n])⟩
  · intro j hj
    by_cases hjb : j = b
    · subst hjb
      obtain ⟨x1, x2, x3, x4, x5, x6⟩ := w2 j hj
      simp (disch := omega) only [wr_s, wr_n]
      exact ⟨x1, x2, hv, x4, x5, x6⟩
    · simp (disch := omega) only [wr_n]
      exact w2 j hj
  · intro j hj
    by_cases hjb : j = b
    · subst hjb
      obtain ⟨y1, y2, y3, y4, y5, y6, y7, y8, y9⟩ := q2 j hj
      simp (disch := omega) only [wr_s, wr_n]
      exact ⟨y1, y2, y3, trivial, y5, y6, y7, y8, y9⟩
    · simp (disch := omega) only [wr_n]
      exact q2 j hj

theorem q_36 : eqP_36 Rel := by
  intro n I J hn hR p0 p1
  obtain ⟨c, e, ⟨h2, h10, h30, he⟩, ⟨J0, J5, J6⟩, ⟨I0, I7⟩, hW⟩ := hR.facts hn
  have t0 : (wr J 306 0 0) 306 0 = 0 := wr_s
  have K0 : (wr J 306 0 0) 307 0 = nI c := w7.trans J0
  have K7 : (wr J 306 0 0) 307 = J 307 := funext fun j => w7
  unfold fX7_setOffset fX8_setOffset
  rcases inx (c := c) (by omega) p0 with ⟨b, hb, rfl⟩ | ho
  · rw [chkB_i I0 h10 hb, noB_i t0 K0 h10 hb, ob_s, if_pos rfl, ob2_some, if_pos e00]
    by_cases hin : ¬ p1 < (-99 : Int32) ∧ ¬ (99 : Int32) < p1
    · have hv : bd (-99) 99 p1 := by
        obtain ⟨a1, a2⟩ := hin
        rw [toInt_lt'] at a1 a2
        rw [show (-99 : Int32).toInt = -99 from rfl] at a1
        rw [show (99 : Int32).toInt = 99 from rfl] at a2
        unfold bd
        omega
      have hR0 : RelB (7 * (n + 6)) I (wr J 306 0 0) := Rel.J0 hR 0
      obtain ⟨I1, J1, b1, b2, b3, b4, b5, b6⟩ := begin_at hR0
      have hW1 : EW c e I1 1 (J1 307) := by rw [b5, K7]; exact hW.bI b4
      have ev : I1 6 b = J1 307 (42 + b) := (hW1.2.2.1 b hb).2.2.2.1
      refine ⟨0, I1 6 b + 99, wr I1 6 b p1, J1 307 (42 + b) + 99, wr J1 307 (42 + b) p1, ?_, ?_, RelB.set (Nat.le_refl _) b3 (fun k j h1 h2 => by simp (disch := omega) only [wr_n]) (fun k j h1 h2 => by simp (disch := omega) only [wr_n]) ⟨c, e, by omega, ew_setOffset hW1 hb hv⟩, Or.inl ⟨rfl, ?_, by rw [ev]⟩⟩
      · rw [if_neg hin.1, if_pos (le_of_nlt hin.2), b1, ob_s, ald_n (by omega) (by omega), ob_s, ast_n (by omega) (by omega)]
        rfl
      · rw [within_i hin.1 hin.2, ob_s, plet_d, if_neg n10, thr_0 t0, ob2_some, if_pos e00]
        unfold fX8_replaces
        rw [b2, ob_s, L42, nI_add, ald_n (by omega) (by omega), ob_s, ast_n (by omega) (by omega)]
        rfl
      · rw [wr_n (by omega), b6, t0]
    · have hout : p1 < (-99 : Int32) ∨ (99 : Int32) < p1 := by
        by_cases h : p1 < (-99 : Int32)
        · exact Or.inl h
        · by_cases h' : (99 : Int32) < p1
          · exact Or.inr h'
          · exact absurd ⟨h, h'⟩ hin
      refine ⟨2, 0, I, 0, wr (wr J 306 0 0) 306 0 2, ?_, ?_, wJ0 hR 2, Or.inr (Or.inr ⟨rfl, wr_s⟩)⟩
      · by_cases h : p1 < (-99 : Int32)
        · rw [if_pos h]
        · rw [if_neg h, if_neg (nle_of_lt (hout.resolve_left h))]
      · rw [within_o hout, ob_s, plet_d, if_pos e00, thr_12 t0, ob2_some, if_neg n10]
        rfl
  · refine ⟨1, 0, I, 0, wr (wr J 306 0 0) 306 0 1, ?_, ?_, wJ0 hR 1, Or.inr (Or.inl ⟨rfl, wr_s⟩)⟩
    · rw [chkB_o I0 ho, ob_s, if_neg (by decide)]
    · rw [noB_o t0 K0 (by omega) h10 ho, ob2_some, if_neg (by decide)]
      rfl

theorem ew_setHold {c e b : Nat} {I J : Mem} {v : Int32} (hW1 : EW c e I 1 (J 307)) (hb : b < c) (hv : bd 0 99 v) : EW c e (wr I 5 b v) 1 (wr J 307 (32 + b) v 307) := by
  have h10 := hW1.c10
  obtain ⟨⟨w1, w2, w3, w4⟩, q1, q2, q3, q4⟩ := hW1
  refine ⟨⟨w1.cg (fun i h1 h2 => by simp (disch := omega) only [wr_n]), ?_, w3.cg h10 (fun i h1 h2 => by simp (disch := omega) only [wr_n]), w4.cg h10 (fun i h1 h2 => by simp (disch := omega) only [wr_n])⟩, q1.cg h10 (fun j h1 h2 => by simp (disch := omega) only [wr_n]) (by simp (disch := omega) only [wr_n]) (by simp (disch := omega) only [wr_n]) (by simp (disch := omega) only [wr_n]) (fun i h1 h2 h3 => by simp (disch := omega) only [wr_n]) (fun i h1 h2 => by simp (disch := omega) only [wr_n]) (fun i h1 h2 => by simp (disch := omega) only [wr_n]), ?_, q3.cg h10 (fun k j h1 h2 h3 => by simp (disch := omega) only [wr_n]) (fun i h1 h2 => by simp (disch := omega) only [wr_n]), q4.cg h10 (fun k j h1 h2 => by simp (disch := omega) only [wr_n]) (fun i h1 h2 => by simp (disch := omega) only [wr_n])⟩
  · intro j hj
    by_cases hjb : j = b
    · subst hjb
      obtain ⟨x1, x2, x3, x4, x5, x6⟩ := w2 j hj
      simp (disch := omega) only [wr_s, wr_n]
      exact ⟨x1, hv, x3, x4, x5, x6⟩
    · simp (disch := omega) only [wr_n]
      exact w2 j hj
  · intro j hj
    by_cases hjb : j = b
    · subst hjb
      obtain ⟨y1, y2, y3, y4, y5, y6, y7, y8, y9⟩ := q2 j hj
      simp (disch := omega) only [wr_s, wr_n]
      exact ⟨y1, y2, trivial, y4, y5, y6, y7, y8, y9⟩
    · simp (disch := omega) only [wr_n]
      exact q2 j hj

theorem q_37 : eqP_37 Rel := by
  intro n I J hn hR p0 p1
  obtain ⟨c, e, ⟨h2, h10, h30, he⟩, ⟨J0, J5, J6⟩, ⟨I0, I7⟩, hW⟩ := hR.facts hn
  have t0 : (wr J 306 0 0) 306 0 = 0 := wr_s
  have K0 : (wr J 306 0 0) 307 0 = nI c := w7.trans J0
  have K7 : (wr J 306 0 0) 307 = J 307 := funext fun j => w7
  unfold fX7_setHold fX8_setHold
  rcases inx (c := c) (by omega) p0 with ⟨b, hb, rfl⟩ | ho
  · rw [chkB_i I0 h10 hb, noB_i t0 K0 h10 hb, ob_s, if_pos rfl, ob2_some, if_pos e00]
    by_cases hin : ¬ p1 < (0 : Int32) ∧ ¬ (99 : Int32) < p1
    · have hv : bd 0 99 p1 := by
        obtain ⟨a1, a2⟩ := hin
        rw [toInt_lt'] at a1 a2
        rw [toInt_0] at a1
        rw [show (99 : Int32).toInt = 99 from rfl] at a2
        unfold bd
        omega
      have hR0 : RelB (7 * (n + 6)) I (wr J 306 0 0) := Rel.J0 hR 0
      obtain ⟨I1, J1, b1, b2, b3, b4, b5, b6⟩ := begin_at hR0
      have hW1 : EW c e I1 1 (J1 307) := by rw [b5, K7]; exact hW.bI b4
      have ev : I1 5 b = J1 307 (32 + b) := (hW1.2.2.1 b hb).2.2.1
      refine ⟨0, I1 5 b, wr I1 5 b p1, J1 307 (32 + b), wr J1 307 (32 + b) p1, ?_, ?_, RelB.set (Nat.le_refl _) b3 (fun k j h1 h2 => by simp (disch := omega) only [wr_n]) (fun k j h1 h2 => by simp (disch := omega) only [wr_n]) ⟨c, e, by omega, ew_setHold hW1 hb hv⟩, Or.inl ⟨rfl, ?_, by rw [ev]⟩⟩
      · rw [if_neg hin.1, if_pos (le_of_nlt hin.2), b1, ob_s, ald_n (by omega) (by omega), ob_s, ast_n (by omega) (by omega)]
        rfl
      · rw [within_i hin.1 hin.2, ob_s, plet_d, if_neg n10, thr_0 t0, ob2_some, if_pos e00]
        unfold fX8_replaces
        rw [b2, ob_s, L32, nI_add, ald_n (by omega) (by omega), ob_s, ast_n (by omega) (by omega)]
        rfl
      · rw [wr_n (by omega), b6, t0]
    · have hout : p1 < (0 : Int32) ∨ (99 : Int32) < p1 := by
        by_cases h : p1 < (0 : Int32)
        · exact Or.inl h
        · by_cases h' : (99 : Int32) < p1
          · exact Or.inr h'
          · exact absurd ⟨h, h'⟩ hin
      refine ⟨2, 0, I, 0, wr (wr J 306 0 0) 306 0 2, ?_, ?_, wJ0 hR 2, Or.inr (Or.inr ⟨rfl, wr_s⟩)⟩
      · by_cases h : p1 < (0 : Int32)
        · rw [if_pos h]
        · rw [if_neg h, if_neg (nle_of_lt (hout.resolve_left h))]
      · rw [within_o hout, ob_s, plet_d, if_pos e00, thr_12 t0, ob2_some, if_neg n10]
        rfl
  · refine ⟨1, 0, I, 0, wr (wr J 306 0 0) 306 0 1, ?_, ?_, wJ0 hR 1, Or.inr (Or.inl ⟨rfl, wr_s⟩)⟩
    · rw [chkB_o I0 ho, ob_s, if_neg (by decide)]
    · rw [noB_o t0 K0 (by omega) h10 ho, ob2_some, if_neg (by decide)]
      rfl

theorem ew_terms {c e : Nat} {I J : Mem} {x y z : Int32} (hW1 : EW c e I 1 (J 307)) (v1 : bd 0 999 x) (v2 : bd 1 9 y) (v3 : bd 1 9 z) : EW c e (wr (wr (wr I 1 3 x) 1 4 y) 1 5 z) 1 (wr (wr (wr J 307 1 x) 307 2 y) 307 3 z 307) := by
  have h10 := hW1.c10
  obtain ⟨⟨w1, w2, w3, w4⟩, q1, q2, q3, q4⟩ := hW1
  refine ⟨⟨?_, w2.cg h10 (fun i h1 h2 h3 => by simp (disch := omega) only [wr_n]), w3.cg h10 (fun i h1 h2 => by simp (disch := omega) only [wr_n]), w4.cg h10 (fun i h1 h2 => by simp (disch := omega) only [wr_n])⟩, ?_, q2.cg h10 (fun k j h1 h2 h3 => by simp (disch := omega) only [wr_n]) (fun i h1 h2 h3 => by simp (disch := omega) only [wr_n]), q3.cg h10 (fun k j h1 h2 h3 => by simp (disch := omega) only [wr_n]) (fun i h1 h2 => by simp (disch := omega) only [wr_n]), q4.cg h10 (fun k j h1 h2 => by simp (disch := omega) only [wr_n]) (fun i h1 h2 => by simp (disch := omega) only [wr_n])⟩
  · obtain ⟨a1, a2, a3, a4, a5, -⟩ := w1
    refine ⟨a1, a2, ?_, ?_, ?_, ?_, ?_, ?_⟩
    all_goals simp (disch := omega) only [wr_s, wr_n]
    · exact a3
    · exact a4
    · exact a5
    · exact v1
    · exact v2
    · exact v3
  · obtain ⟨m0, m3, m4, m5, m6, m7, m8, m9, m10, m11, mb, mr⟩ := q1
    refine ⟨?_, ?_, ?_, ?_, ?_, ?_, ?_, ?_, ?_, ?_, ?_, ?_⟩
    all_goals simp (disch := omega) only [wr_s, wr_n]
    · exact m0
    · exact m6
    · exact m7
    · exact m8
    · exact m9
    · exact m10
    · exact m11
    · rw [mb]
      exact bsl_cong (fun i hi => by unfold broB; simp (disch := omega) only [wr_n])
    · rw [mr]
      exact bsl_cong (fun i hi => by unfold hasB; simp (disch := omega) only [wr_n])

theorem bd_in {x : Int32} {lo hi : Nat} (hl : lo < 2 ^ 31) (hh : hi < 2 ^ 31) (h1 : ¬ x < nI lo) (h2 : ¬ nI hi < x) : bd lo hi x := by
  rw [toInt_lt', nI_toInt hl] at h1
  rw [toInt_lt', nI_toInt hh] at h2
  unfold bd
  omega
theorem q_38 : eqP_38 Rel := by
  intro n I J hn hR p0 p1 p2
  obtain ⟨c, e, ⟨h2, h10, h30, he⟩, ⟨J0, J5, J6⟩, ⟨I0, I7⟩, hW⟩ := hR.facts hn
  have t0 : (wr J 306 0 0) 306 0 = 0 := wr_s
  have K7 : (wr J 306 0 0) 307 = J 307 := funext fun j => w7
  have bad : ∀ x : Option Int32, x = some 1 → (Option.bind x fun x4 => ob2 (fX8_throwsIf x4 (1 : Int32) (wr J 306 0 (0 : Int32))) fun x5 J6 => if x5 = 0 then ob2 (fX8_replaces (1 : Int32) p0 J6) fun x7 J8 => Option.bind (ast J8 307 574 (2 : Int32) p1) fun J9 => Option.bind (ast J9 307 574 (3 : Int32) p2) fun J10 => some (x7, J10) else some ((0 : Int32), J6)) = some (0, wr (wr J 306 0 0) 306 0 1) := fun x hx => by
    rw [hx, ob_s, thr_11 t0, ob2_some, if_neg n10]
  unfold fX7_setTerms fX8_setTerms
  have fail : ∀ {a b}, a = some (2, (0 : Int32), I) → b = some ((0 : Int32), wr (wr J 306 0 0) 306 0 1) → ∃ (E : Nat) (r : Int32) (Iq : Mem) (rb : Int32) (Jq : Mem), a = some (E, r, Iq) ∧ b = some (rb, Jq) ∧ Rel (n + 6) Iq Jq ∧ ((E = 0 ∧ Jq 306 0 = 0 ∧ r = rb) ∨ (E = 2 ∧ Jq 306 0 = 1)) := fun h1 h2 => ⟨2, 0, I, 0, _, h1, h2, wJ0 hR 1, Or.inr ⟨rfl, wr_s⟩⟩
  by_cases a1 : p0 < 0
  · rw [within_o (Or.inl a1), ob_s, if_pos e00]
    exact fail (by rw [if_pos a1]) (bad _ rfl)
  by_cases a2 : (999 : Int32) < p0
  · rw [within_o (Or.inr a2), ob_s, if_pos e00]
    exact fail (by rw [if_neg a1, if_pos a2]) (bad _ rfl)
  rw [within_i a1 a2, ob_s, if_neg n10, if_neg a1, if_neg a2]
  by_cases a3 : p1 < 1
  · rw [within_o (Or.inl a3), ob_s, if_pos e00]
    exact fail (by rw [if_pos a3]) (bad _ rfl)
  by_cases a4 : (9 : Int32) < p1
  · rw [within_o (Or.inr a4), ob_s, if_pos e00]
    exact fail (by rw [if_neg a3, if_pos a4]) (bad _ rfl)
  rw [within_i a3 a4, ob_s, if_neg n10, if_neg a3, if_neg a4]
  by_cases a5 : p2 < 1
  · rw [within_o (Or.inl a5), ob_s, if_pos e00]
    exact fail (by rw [if_pos a5]) (bad _ rfl)
  by_cases a6 : (9 : Int32) < p2
  · rw [within_o (Or.inr a6), ob_s, if_pos e00]
    exact fail (by rw [if_neg a5, if_neg (nle_of_lt a6)]) (bad _ rfl)
  rw [within_i a5 a6, ob_s, if_neg n10, if_neg a5, if_pos (le_of_nlt a6), ob_s, thr_0 t0, ob2_some, if_pos e00]
  have hR0 : RelB (7 * (n + 6)) I (wr J 306 0 0) := Rel.J0 hR 0
  obtain ⟨I1, J1, b1, b2, b3, b4, b5, b6⟩ := begin_at hR0
  have hW1 : EW c e I1 1 (J1 307) := by rw [b5, K7]; exact hW.bI b4
  have v1 : bd 0 999 p0 := bd_in (lo := 0) (hi := 999) (by omega) (by omega) a1 a2
  have v2 : bd 1 9 p1 := bd_in (lo := 1) (hi := 9) (by omega) (by omega) a3 a4
  have v3 : bd 1 9 p2 := bd_in (lo := 1) (hi := 9) (by omega) (by omega) a5 a6
  refine ⟨0, I1 1 3, wr (wr (wr I1 1 3 p0) 1 4 p1) 1 5 p2, J1 307 1, wr (wr (wr J1 307 1 p0) 307 2 p1) 307 3 p2, ?_, ?_, RelB.set (Nat.le_refl _) b3 (fun k j h1 h2 => by simp (disch := omega) only [wr_n]) (fun k j h1 h2 => by simp (disch := omega) only [wr_n]) ⟨c, e, by omega, ew_terms hW1 v1 v2 v3⟩, Or.inl ⟨rfl, ?_, hW1.2.1.2.1⟩⟩
  · rw [b1]
    rfl
  · unfold fX8_replaces
    rw [b2, ob_s, ald_1 (by omega) (by omega), ob_s, ast_1 (by omega) (by omega), ob_s, ob2_some, L2, ast_n (by omega) (by omega), ob_s, L3, ast_n (by omega) (by omega)]
    rfl
  · simp (disch := omega) only [wr_n]
    rw [b6, t0]

def sI (I : Mem) (b : Nat) : Mem := wr (wr (wr (wr I 7 b 1) 8 b 0) 9 b 0) 10 b (-1)
def sJ (J : Mem) (b : Nat) : Mem := wr (wr (wr (wr J 307 (52 + b) 1) 307 (62 + b) 0) 307 (72 + b) 0) 307 (82 + b) (-1)
theorem ew_susp {c e b : Nat} {I J : Mem} (hW1 : EW c e I 1 (J 307)) (hb : b < c) : EW c e (sI I b) 1 (sJ J b 307) := by
  have h10 := hW1.c10
  unfold sI sJ
  obtain ⟨⟨w1, w2, w3, w4⟩, q1, q2, q3, q4⟩ := hW1
  refine ⟨⟨w1.cg (fun i h1 h2 => by simp (disch := omega) only [wr_n]), ?_, w3.cg h10 (fun i h1 h2 => by simp (disch := omega) only [wr_n]), w4.cg h10 (fun i h1 h2 => by simp (disch := omega) only [wr_n])⟩, q1.cg h10 (fun j h1 h2 => by simp (disch := omega) only [wr_n]) (by simp (disch := omega) only [wr_n]) (by simp (disch := omega) only [wr_n]) (by simp (disch := omega) only [wr_n]) (fun i h1 h2 h3 => by simp (disch := omega) only [wr_n]) (fun i h1 h2 => by simp (disch := omega) only [wr_n]) (fun i h1 h2 => by simp (disch := omega) only [wr_n]), ?_, q3.cg h10 (fun k j h1 h2 h3 => by simp (disch := omega) only [wr_n]) (fun i h1 h2 => by simp (disch := omega) only [wr_n]), q4.cg h10 (fun k j h1 h2 => by simp (disch := omega) only [wr_n]) (fun i h1 h2 => by simp (disch := omega) only [wr_n])⟩
  · intro j hj
    by_cases hjb : j = b
    · subst hjb
      obtain ⟨x1, x2, x3, x4, x5, x6⟩ := w2 j hj
      simp (disch := omega) only [wr_s, wr_n]
      exact ⟨x1, x2, x3, by unfold bd; decide, x5, x6⟩
    · simp (disch := omega) only [wr_n]
      exact w2 j hj
  · intro j hj
    by_cases hjb : j = b
    · subst hjb
      obtain ⟨y1, y2, y3, y4, y5, y6, y7, y8, y9⟩ := q2 j hj
      simp (disch := omega) only [wr_s, wr_n]
      exact ⟨y1, y2, y3, y4, trivial, trivial, trivial, trivial, y9⟩
    · simp (disch := omega) only [wr_n]
      exact q2 j hj
theorem susp7 {c b : Nat} {I : Mem} (hc : I 2 0 = nI c) (h10 : c ≤ 10) (hb : b < c) : fX0_putUnderSuspicion 1 (nI b) I = some (sI I b) := by
  unfold fX0_putUnderSuspicion
  rw [if_neg (nI_pos (by omega)), show I (1 + 1) 0 = nI c from hc, if_pos (by rw [nI_ltP (by omega) (by omega)]; omega), ast_n (by omega) (by omega), ob_s, ast_n (by omega) (by omega), ob_s, ast_n (by omega) (by omega), ob_s, ast_n (by omega) (by omega)]
  rfl
theorem susp8 {b : Nat} {J : Mem} (hb : b < 10) : fX8_suspects (nI b) J = some (sJ J b) := by
  unfold fX8_suspects
  rw [L52, L62, L72, L82, nI_add, nI_add, nI_add, nI_add, ast_n (by omega) (by omega), ob_s, ast_n (by omega) (by omega), ob_s, ast_n (by omega) (by omega), ob_s, ast_n (by omega) (by omega)]
  rfl
/-- how many are in a state: told by both -/
theorem cnt_st2 {c e : Nat} {I J : Mem} {t : Int32} (hW : EW c e I 1 (J 307)) : (Option.bind (fX0_membersIn 1 t I) fun x => fJ6_bitCount_0f7a4 x) = fX8_inState t J := by
  have h10 := hW.c10
  rw [memb_e (b := 1) hW.2.1.1 h10, ob_s, bc_e (fun i hi => bsl_hi (by omega) (by omega)), inSt_e hW.1.1.2.2.1 h10, pc_bsl h10]
  congr 1
  apply itr_congr
  intro i a _ hi
  rw [(hW.2.2.1 i (by omega)).2.2.2.2.1]
theorem act_haul {E b : Nat} {I J : Mem} (hR : RelB E I J) (hE : E < 2 ^ 29) (hb : nI b < J 307 0) (hb2 : b < 2 ^ 31) : ∃ r I' J', fX7_haul (nI b) I = some (0, r, I') ∧ fX8_hauls (nI b) J = some (r, J') ∧ RelB E I' J' ∧ J' 306 0 = J 306 0 := by
  obtain ⟨c, e, ⟨hc2, h10, h30, he⟩, ⟨J0, -, -⟩, ⟨I0, -⟩, hW⟩ := hR.at hE
  rw [J0, nI_ltP (by omega) (by omega)] at hb
  have e5 : I 7 b = J 307 (52 + b) := (hW.2.2.1 b hb).2.2.2.2.1
  unfold fX7_haul fX8_hauls
  rw [chkB_i I0 h10 hb, ob_s, if_pos rfl, ald_n (by omega) (by omega), ob_s, L52, nI_add, ald_n (by omega) (by omega), ob_s, e5]
  by_cases h : J 307 (52 + b) = 2
  · rw [if_pos h, if_pos h]
    obtain ⟨I1, J1, b1, b2, b3, b4, b5, b6⟩ := begin_at hR
    have hW1 : EW c e I1 1 (J1 307) := by rw [b5]; exact hW.bI b4
    have hW2 : EW c e (sI I1 b) 1 (sJ J1 b 307) := ew_susp hW1 hb
    have hcs := cnt_st2 (t := 2) hW2
    rw [b1, ob_s, b2, ob_s, susp7 hW1.2.1.1 h10 hb, ob_s, susp8 (by omega), ob_s, ← hcs]
    have hm := memb_e (b := 1) (t := 2) hW2.2.1.1 h10
    rw [hm, ob_s, ob_s, bc_e (fun i hi => bsl_hi (by omega) (by omega)), ob_s, ob_s]
    refine ⟨_, sI I1 b, sJ J1 b, rfl, rfl, RelB.set (Nat.le_refl _) b3 (fun k j h1 h2 => by unfold sI; simp (disch := omega) only [wr_n]) (fun k j h1 h2 => by unfold sJ; simp (disch := omega) only [wr_n]) ⟨c, e, he, hW2⟩, ?_⟩
    unfold sJ
    simp (disch := omega) only [wr_n]
    exact b6
  · rw [if_neg h, if_neg h]
    obtain ⟨I', J', r1, r2, r3, r4⟩ := refuse_e hR (k := 1) (by omega) (by omega)
    exact ⟨-(nI 1), I', J', by rw [show fX7_refuse 1 I = _ from r1]; rfl, by rw [show fX8_refused 1 J = _ from r2]; rfl, r3, r4⟩

def rI (I : Mem) (b : Nat) (v : Int32) : Mem := wr (wr I 2 1 (I 2 1 ||| bit1 b)) 11 b v
def rJ (J : Mem) (b : Nat) (v : Int32) : Mem := wr (wr J 307 (92 + b) 1) 307 (102 + b) v
theorem ew_rep {c e b : Nat} {I J : Mem} {v : Int32} (hW1 : EW c e I 1 (J 307)) (hb : b < c) (hv : bd (-9999) 9999 v) : EW c e (rI I b v) 1 (rJ J b v 307) := by
  have h10 := hW1.c10
  unfold rI rJ
  obtain ⟨⟨w1, w2, w3, w4⟩, q1, q2, q3, q4⟩ := hW1
  refine ⟨⟨w1.cg (fun i h1 h2 => by simp (disch := omega) only [wr_n]), ?_, w3.cg h10 (fun i h1 h2 => by simp (disch := omega) only [wr_n]), w4.cg h10 (fun i h1 h2 => by simp (disch := omega) only [wr_n])⟩, ?_, ?_, q3.cg h10 (fun k j h1 h2 h3 => by simp (disch := omega) only [wr_n]) (fun i h1 h2 => by simp (disch := omega) only [wr_n]), q4.cg h10 (fun k j h1 h2 => by simp (disch := omega) only [wr_n]) (fun i h1 h2 => by simp (disch := omega) only [wr_n])⟩
  · intro j hj
    by_cases hjb : j = b
    · subst hjb
      obtain ⟨x1, x2, x3, x4, x5, x6⟩ := w2 j hj
      simp (disch := omega) only [wr_s, wr_n]
      exact ⟨x1, x2, x3, x4, Or.inr trivial, hv⟩
    · simp (disch := omega) only [wr_n]
      exact w2 j hj
  · obtain ⟨m0, m3, m4, m5, m6, m7, m8, m9, m10, m11, mb, mr⟩ := q1
    refine ⟨?_, ?_, ?_, ?_, ?_, ?_, ?_, ?_, ?_, ?_, ?_, ?_⟩
    all_goals simp (disch := omega) only [wr_s, wr_n]
    · exact m0
    · exact m3
    · exact m4
    · exact m5
    · exact m6
    · exact m7
    · exact m8
    · exact m9
    · exact m10
    · exact m11
    · rw [mb]
      exact bsl_cong (fun i hi => by unfold broB; simp (disch := omega) only [wr_n])
    · rw [show I 2 1 = _ from mr]
      apply b_ext
      intro i hi
      rw [b_or, b_bit1 (by omega) hi, b_bsl hi _ _ _ (by omega), b_bsl hi _ _ _ (by omega), b_0]
      by_cases hib : i = b
      · subst hib
        unfold hasB
        simp (disch := omega) only [wr_s, wr_n]
        simp [hb]
      · by_cases hic : i < c
        · unfold hasB
          simp (disch := omega) only [wr_n]
          simp [hib]
        · simp [hib, hic]
  · intro j hj
    by_cases hjb : j = b
    · subst hjb
      obtain ⟨y1, y2, y3, y4, y5, y6, y7, y8, y9⟩ := q2 j hj
      simp (disch := omega) only [wr_s, wr_n]
      exact ⟨y1, y2, y3, y4, y5, y6, y7, y8, trivial⟩
    · simp (disch := omega) only [wr_n]
      exact q2 j hj
theorem act_report {E b : Nat} {I J : Mem} {v : Int32} (hR : RelB E I J) (hE : E < 2 ^ 29) (hb : nI b < J 307 0) (hb2 : b < 2 ^ 31) (hv : bd (-9999) 9999 v) : ∃ r I' J', fX7_report (nI b) v I = some (0, r, I') ∧ fX8_reports (nI b) v J = some (r, J') ∧ RelB E I' J' ∧ J' 306 0 = J 306 0 ∧ J' 307 0 = J 307 0 := by
  obtain ⟨c, e, ⟨hc2, h10, h30, he⟩, ⟨J0, -, -⟩, ⟨I0, -⟩, hW⟩ := hR.at hE
  rw [J0, nI_ltP (by omega) (by omega)] at hb
  have v1 : ¬ v < (-9999 : Int32) := by
    rw [toInt_lt', show (-9999 : Int32).toInt = -9999 from rfl]
    unfold bd at hv
    omega
  have v2 : v ≤ (9999 : Int32) := by
    rw [toInt_le, show (9999 : Int32).toInt = 9999 from rfl]
    unfold bd at hv
    omega
  obtain ⟨I1, J1, b1, b2, b3, b4, b5, b6⟩ := begin_at hR
  have hW1 : EW c e I1 1 (J1 307) := by rw [b5]; exact hW.bI b4
  have hW2 : EW c e (rI I1 b v) 1 (rJ J1 b v 307) := ew_rep hW1 hb hv
  obtain ⟨J2, r1, r2, r3⟩ := rp_e (t := -1) (J := rJ J1 b v) h10 hW2.1.1.2.2.1 rfl
  have hset : rI I1 b v 2 1 = bsl (rpB (rJ J1 b v 307) (-1)) 0 c 0 := by
    rw [show rI I1 b v 2 1 = _ from hW2.2.1.2.2.2.2.2.2.2.2.2.2.2]
    exact bsl_cong (fun i hi => by unfold rpB; simp)
  have f7 : J2 307 = rJ J1 b v 307 := funext fun j => r2 _ _ (by decide)
  refine ⟨pc10 (bsl (rpB (rJ J1 b v 307) (-1)) 0 c 0), rI I1 b v, J2, ?_, ?_, ?_, ?_, ?_⟩
  · unfold fX7_report
    rw [chkB_i I0 h10 hb, ob_s, if_pos rfl, if_neg v1, if_pos v2, b1, ob_s, ast_n (by omega) (by omega), ob_s, show wr (wr I1 2 1 (I1 2 1 ||| 1 <<< (nI b &&& 31))) 11 b v = rI I1 b v from rfl, hset, bc_e (fun i hi => bsl_hi (by omega) (by omega))]
    rfl
  · unfold fX8_reports
    rw [b2, ob_s, L92, L102, nI_add, nI_add, ast_n (by omega) (by omega), ob_s, ast_n (by omega) (by omega), ob_s, show wr (wr J1 307 (92 + b) 1) 307 (102 + b) v = rJ J1 b v from rfl, r1, ob2_some, bits8]
    rfl
  · refine RelB.set (Nat.le_refl _) b3 (fun k j h1 h2 => by unfold rI; simp (disch := omega) only [wr_n]) (fun k j h1 h2 => ?_) ⟨c, e, he, by rw [f7]; exact hW2⟩
    rw [r2 k j (by unfold qJ at h2; omega)]
    unfold rJ
    simp (disch := omega) only [wr_n]
  · rw [r2 _ _ (by decide)]
    unfold rJ
    simp (disch := omega) only [wr_n]
    exact b6
  · rw [f7, hW2.1.1.2.2.1, J0]
