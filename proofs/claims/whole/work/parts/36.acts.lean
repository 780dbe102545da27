/-! ACTS: SMALL ONES -/
theorem wr_n {I : Mem} {k j k' j' : Nat} {v : Int32} (h : ¬ (k' = k ∧ j' = j)) : wr I k j v k' j' = I k' j' := by
  unfold wr
  rw [if_neg h]
section CG
variable {c e b : Nat} {I I' : Mem} {F F' : Row}
theorem WFn.cg (hF : ∀ i, i < 7 → i ≠ 4 → F' i = F i) (h : WFn c e F) : WFn c e F' := by
  unfold WFn
  rw [hF 0 (by omega) (by omega), hF 1 (by omega) (by omega), hF 2 (by omega) (by omega), hF 3 (by omega) (by omega), hF 5 (by omega) (by omega), hF 6 (by omega) (by omega)]
  exact h
theorem WFb.cg (hc : c ≤ 10) (hF : ∀ i, 22 ≤ i → i < 112 → ¬ (62 ≤ i ∧ i < 92) → F' i = F i) (h : WFb c F) : WFb c F' := by
  intro j hj
  rw [hF (22 + j) (by omega) (by omega) (by omega), hF (32 + j) (by omega) (by omega) (by omega), hF (42 + j) (by omega) (by omega) (by omega), hF (52 + j) (by omega) (by omega) (by omega), hF (92 + j) (by omega) (by omega) (by omega), hF (102 + j) (by omega) (by omega) (by omega)]
  exact h j hj
theorem WFr.cg (hc : c ≤ 10) (hF : ∀ i, 132 ≤ i → i < 142 → F' i = F i) (h : WFr c F) : WFr c F' := by
  intro j hj
  rw [hF (132 + j) (by omega) (by omega)]
  exact h j hj
theorem WFh.cg (hc : c ≤ 10) (hF : ∀ i, 142 ≤ i → i < 574 → F' i = F i) (h : WFh c e F) : WFh c e F' := by
  intro x k
  have := kept_hp k
  exact (h x k).cong hc (fun i h1 h2 => hF i (by omega) (by omega))
theorem EQn.cg (hc : c ≤ 10) (hI : ∀ j, 3 ≤ j → j < 12 → I' b j = I b j) (h0 : I' (b + 1) 0 = I (b + 1) 0) (h1 : I' (b + 1) 1 = I (b + 1) 1) (h2 : I' (b + 11) 0 = I (b + 11) 0) (hF : ∀ i, 1 ≤ i → i < 11 → i ≠ 6 → F' i = F i) (hH : ∀ i, 92 ≤ i → i < 102 → F' i = F i) (hB : ∀ i, 132 ≤ i → i < 142 → F' i = F i) (h : EQn c I b F) : EQn c I' b F' := by
  unfold EQn
  rw [h0, h1, h2, hI 3 (by omega) (by omega), hI 4 (by omega) (by omega), hI 5 (by omega) (by omega), hI 6 (by omega) (by omega), hI 7 (by omega) (by omega), hI 8 (by omega) (by omega), hI 9 (by omega) (by omega), hI 10 (by omega) (by omega), hI 11 (by omega) (by omega)]
  rw [hF 1 (by omega) (by omega) (by omega), hF 2 (by omega) (by omega) (by omega), hF 3 (by omega) (by omega) (by omega), hF 4 (by omega) (by omega) (by omega), hF 5 (by omega) (by omega) (by omega), hF 7 (by omega) (by omega) (by omega), hF 8 (by omega) (by omega) (by omega), hF 9 (by omega) (by omega) (by omega), hF 10 (by omega) (by omega) (by omega)]
  rw [bsl_cong (p := broB F') (q := broB F) (fun i hi => by unfold broB; rw [hB (132 + i) (by omega) (by omega)]), bsl_cong (p := hasB F') (q := hasB F) (fun i hi => by unfold hasB; rw [hH (92 + i) (by omega) (by omega)])]
  exact h
theorem EQb.cg (hc : c ≤ 10) (hI : ∀ k j, 2 ≤ k → k ≤ 10 → j < 10 → I' (b + k) j = I (b + k) j) (hF : ∀ i, 12 ≤ i → i < 112 → ¬ (92 ≤ i ∧ i < 102) → F' i = F i) (h : EQb c I b F) : EQb c I' b F' := by
  intro j hj
  rw [hI 2 j (by omega) (by omega) (by omega), hI 3 j (by omega) (by omega) (by omega), hI 4 j (by omega) (by omega) (by omega), hI 5 j (by omega) (by omega) (by omega), hI 6 j (by omega) (by omega) (by omega), hI 7 j (by omega) (by omega) (by omega), hI 8 j (by omega) (by omega) (by omega), hI 9 j (by omega) (by omega) (by omega), hI 10 j (by omega) (by omega) (by omega)]
  rw [hF (12 + j) (by omega) (by omega) (by omega), hF (22 + j) (by omega) (by omega) (by omega), hF (32 + j) (by omega) (by omega) (by omega), hF (42 + j) (by omega) (by omega) (by omega), hF (52 + j) (by omega) (by omega) (by omega), hF (62 + j) (by omega) (by omega) (by omega), hF (72 + j) (by omega) (by omega) (by omega), hF (82 + j) (by omega) (by omega) (by omega), hF (102 + j) (by omega) (by omega) (by omega)]
  exact h j hj
theorem EQr.cg (hc : c ≤ 10) (hI : ∀ k j, 12 ≤ k → k ≤ 13 → j < 10 → I' (b + k) j = I (b + k) j) (hF : ∀ i, 112 ≤ i → i < 132 → F' i = F i) (h : EQr c I b F) : EQr c I' b F' := by
  intro j hj
  rw [hI 12 j (by omega) (by omega) (by omega), hI 13 j (by omega) (by omega) (by omega), hF (112 + j) (by omega) (by omega), hF (122 + j) (by omega) (by omega)]
  exact h j hj
theorem EQh.cg (hc : c ≤ 10) (hI : ∀ k j, 15 ≤ k → k ≤ 23 → I' (b + k) j = I (b + k) j) (hF : ∀ i, 142 ≤ i → i < 574 → F' i = F i) (h : EQh c e I b F) : EQh c e I' b F' := by
  intro x k
  have := kept_hp k
  obtain ⟨h1, h2, h3, h4, h5, h6, h7, h8⟩ := h x k
  refine ⟨?_, ?_, ?_, ?_, ?_, ?_, ?_, ?_⟩
  · rw [hF (hp e x) (by omega) (by omega), hI 15 _ (by omega) (by omega)]; exact h1
  · rw [hF (hp e x + 1) (by omega) (by omega), hI 16 _ (by omega) (by omega)]; exact h2
  · rw [hF (hp e x + 2) (by omega) (by omega), hI 17 _ (by omega) (by omega)]; exact h3
  · rw [hF (hp e x + 5) (by omega) (by omega), hI 18 _ (by omega) (by omega)]; exact h4
  · rw [hF (hp e x + 3) (by omega) (by omega), hI 19 _ (by omega) (by omega)]; exact h5
  · rw [hF (hp e x + 4) (by omega) (by omega), hI 22 _ (by omega) (by omega)]; exact h6
  · intro j hj; rw [hF (hp e x + 8 + j) (by omega) (by omega), hI 23 _ (by omega) (by omega)]; exact h7 j hj
  · rw [hF (hp e x) (by omega) (by omega), hF (hp e x + 3) (by omega) (by omega), hF (hp e x + 4) (by omega) (by omega), hF (hp e x + 6) (by omega) (by omega), hI 20 _ (by omega) (by omega), hI 21 _ (by omega) (by omega)]; exact h8
end CG
/-- a new state; all else as it was -/
theorem RelB.set {E E' : Nat} {I I' J J' : Mem} (hE : E ≤ E') (h : RelB E I J) (hI : ∀ k j, ¬ (1 ≤ k ∧ k < 25) → ¬ qI k j → I' k j = I k j) (hJ : ∀ k j, k ≠ 307 → ¬ qJ k j → J' k j = J k j) (hS : RelS E' I' J') : RelB E' I' J' := by
  obtain ⟨-, hU, hV, hA, hT, hE2, hO⟩ := h
  refine ⟨hS, hU.cong hE (fun k j h1 h2 => hI _ _ (by omega) (by unfold qI; omega)) (hI _ _ (by omega) (by unfold qI; omega)) (hI _ _ (by omega) (by unfold qI; omega)) (fun j => hJ _ _ (by omega) (by unfold qJ; omega)) (hJ _ _ (by omega) (by unfold qJ; omega)), hV.cong hE (fun k j h1 h2 => hI _ _ (by omega) (by unfold qI; omega)) (hI _ _ (by omega) (by unfold qI; omega)) (fun j => hJ _ _ (by omega) (by unfold qJ; omega)) (fun j => hJ _ _ (by omega) (by unfold qJ; omega)), hA.cong (fun j => hI _ _ (by omega) (by unfold qI; omega)) (fun j => hJ _ _ (by omega) (by unfold qJ; omega)), hT.cong (fun j => hI _ _ (by omega) (by unfold qI; omega)) (hI _ _ (by omega) (by unfold qI; omega)) (fun j => hJ _ _ (by omega) (by unfold qJ; omega)) (hJ _ _ (by omega) (by unfold qJ; omega)), hE2.cong (hI _ _ (by omega) (by unfold qI; omega)) (hI _ _ (by omega) (by unfold qI; omega)) (hJ _ _ (by omega) (by unfold qJ; omega)) (hJ _ _ (by omega) (by unfold qJ; omega)), hO.cong (fun j => hI _ _ (by omega) (by unfold qI; omega)) (hI _ _ (by omega) (by unfold qI; omega)) (fun j => hJ _ _ (by omega) (by unfold qJ; omega)) (hJ _ _ (by omega) (by unfold qJ; omega))⟩
/-- an act that is refused -/
theorem refuse_e {E k : Nat} {I J : Mem} (h : RelB E I J) (h1 : 1 ≤ k) (h4 : k ≤ 4) : ∃ I' J', fX7_refuse (nI k) I = some (-(nI k), I') ∧ fX8_refused (nI k) J = some (-(nI k), J') ∧ RelB E I' J' ∧ J' 306 0 = J 306 0 := by
  refine ⟨wr I 51 k (I 51 k + 1), wr J 313 k (J 313 k + 1), ?_, ?_, ?_, wr_k (by decide)⟩
  · unfold fX7_refuse
    rw [if_neg (nI_nle (by omega) (by omega)), ofN, if_neg (by rw [nI_leP (by omega) (by omega)]; omega), ald_n (by omega) (by omega), ob_s, ast_n (by omega) (by omega)]
    rfl
  · unfold fX8_refused
    rw [ald_n (by omega) (by omega), ob_s, ast_n (by omega) (by omega)]
    rfl
  · obtain ⟨hS, hU, hV, hA, hT, hE2, hO⟩ := h
    refine ⟨hS.cong (Nat.le_refl _) (fun k j h1 h2 => wr_k (by omega)) (fun j => wr_k (by omega)), hU.cong (Nat.le_refl _) (fun k j h1 h2 => wr_k (by omega)) (wr_k (by omega)) (wr_k (by omega)) (fun j => wr_k (by omega)) (wr_k (by omega)), hV.cong (Nat.le_refl _) (fun k j h1 h2 => wr_k (by omega)) (wr_k (by omega)) (fun j => wr_k (by omega)) (fun j => wr_k (by omega)), fun i hi => ?_, hT.cong (fun j => wr_k (by omega)) (wr_k (by omega)) (fun j => wr_k (by omega)) (wr_k (by omega)), hE2.cong (wr_k (by omega)) (wr_k (by omega)) (wr_k (by omega)) (wr_k (by omega)), hO.cong (fun j => wr_k (by omega)) (wr_k (by omega)) (fun j => wr_k (by omega)) (wr_k (by omega))⟩
    by_cases hik : i = k
    · subst hik
      rw [wr_s, wr_s, hA i hi]
    · rw [wr_j hik, wr_j hik, hA i hi]
/-- at the state of now -/
theorem RelB.at {E : Nat} {I J : Mem} (h : RelB E I J) (hE : E < 2 ^ 29) : ∃ c e, (2 ≤ c ∧ c ≤ 10 ∧ e < 2 ^ 30 ∧ e ≤ E) ∧ (J 307 0 = nI c ∧ J 307 5 = nI e ∧ J 307 6 = nI (min e 24)) ∧ (I 2 0 = nI c ∧ I 1 7 = nI e) ∧ EW c e I 1 (J 307) := by
  obtain ⟨c, e, he, hw⟩ := h.1
  have hw' := hw
  obtain ⟨⟨⟨h2, h10, F0, F5, F6, -⟩, -, -, -⟩, ⟨q0, -, -, -, -, q7, -⟩, -⟩ := hw'
  exact ⟨c, e, ⟨h2, h10, by omega, he⟩, ⟨F0, F5, F6⟩, ⟨q0, q7.trans F5⟩, hw⟩
/-- the state behind the copy that is kept -/
theorem begin_at {E : Nat} {I J : Mem} (hR : RelB E I J) : ∃ I' J', fX7_beginAct I = some I' ∧ fX8_keeps J = some J' ∧ RelB E I' J' ∧ (∀ k j, 1 ≤ k → k < 25 → I' k j = I k j) ∧ J' 307 = J 307 ∧ J' 306 0 = J 306 0 := by
  obtain ⟨I', J', a1, a2, a3, a4, a5⟩ := begin_e hR
  exact ⟨I', J', a1, a2, a3, fun k j h1 h2 => a4 k j (by omega) (by omega) (by omega), funext fun j => a5 _ _ (by omega), a5 _ _ (by omega)⟩
theorem EW.bI {c e : Nat} {I I' : Mem} {F : Row} (h : EW c e I 1 F) (hI : ∀ k j, 1 ≤ k → k < 25 → I' k j = I k j) : EW c e I' 1 F := h.cong (fun k j hr => hI _ _ (by omega) (by unfold rng at hr; omega)) (fun _ _ => rfl)
/-- stock is added -/
theorem act_stock {E a : Nat} {I J : Mem} (hR : RelB E I J) (hE : E < 2 ^ 29) (h1 : 1 ≤ a) (h2 : a < 10000) : ∃ r I' J', fX7_addStock (nI a) I = some (0, r, I') ∧ fX8_stocks (nI a) J = some (r, J') ∧ RelB E I' J' ∧ J' 306 0 = J 306 0 := by
  obtain ⟨c, e, ⟨hc2, h10, h30, he⟩, -, -, hW⟩ := hR.at hE
  have q6 : I 1 6 = J 307 4 := hW.2.1.2.2.2.2.1
  unfold fX7_addStock fX8_stocks
  rw [if_neg (show ¬ nI a < 1 from show ¬ nI a < nI 1 by rw [nI_ltP (by omega) (by omega)]; omega), if_pos (show nI a ≤ 9999 from show nI a ≤ nI 9999 by rw [nI_leP (by omega) (by omega)]; omega), L4, ald_n (by omega) (by omega), ob_s, q6]
  by_cases hs : J 307 4 + nI a ≤ 99999
  · rw [if_pos hs, if_pos hs]
    obtain ⟨I1, J1, b1, b2, b3, b4, b5, b6⟩ := begin_at hR
    have hW1 : EW c e I1 1 (J1 307) := by rw [b5]; exact hW.bI b4
    rw [b1, b2, ob_s, ob_s, L9, ald_n (by omega) (by omega), ob_s, ast_n (by omega) (by omega), ob_s, ald_n (by omega) (by omega), ob_s, ast_n (by omega) (by omega), ob_s, ald_n (by omega) (by omega), ob_s]
    simp (disch := omega) only [wr_s, wr_n]
    refine ⟨I1 1 6 + nI a, wr (wr I1 1 6 (I1 1 6 + nI a)) 1 10 (I1 1 10 + nI a), wr (wr J1 307 4 (J1 307 4 + nI a)) 307 9 (J1 307 9 + nI a), rfl, by rw [show I1 1 6 = J1 307 4 from hW1.2.1.2.2.2.2.1], RelB.set (Nat.le_refl _) b3 (fun k j h1 h2 => by simp (disch := omega) only [wr_n]) (fun k j h1 h2 => by simp (disch := omega) only [wr_n]) ⟨c, e, he, ?_⟩, by simp (disch := omega) only [wr_n]; exact b6⟩
    obtain ⟨⟨w1, w2, w3, w4⟩, q1, q2, q3, q4⟩ := hW1
    obtain ⟨m0, m3, m4, m5, m6, m7, m8, m9, m10, m11, mb, mr⟩ := q1
    refine ⟨⟨w1.cg (fun i h1 h2 => by simp (disch := omega) only [wr_n]), w2.cg h10 (fun i h1 h2 h3 => by simp (disch := omega) only [wr_n]), w3.cg h10 (fun i h1 h2 => by simp (disch := omega) only [wr_n]), w4.cg h10 (fun i h1 h2 => by simp (disch := omega) only [wr_n])⟩, ?_, q2.cg h10 (fun k j h1 h2 h3 => by simp (disch := omega) only [wr_n]) (fun i h1 h2 h3 => by simp (disch := omega) only [wr_n]), q3.cg h10 (fun k j h1 h2 h3 => by simp (disch := omega) only [wr_n]) (fun i h1 h2 => by simp (disch := omega) only [wr_n]), q4.cg h10 (fun k j h1 h2 => by simp (disch := omega) only [wr_n]) (fun i h1 h2 => by simp (disch := omega) only [wr_n])⟩
    refine ⟨?_, ?_, ?_, ?_, ?_, ?_, ?_, ?_, ?_, ?_, ?_, ?_⟩
    all_goals simp (disch := omega) only [wr_s, wr_n]
    · exact m0
    · exact m3
    · exact m4
    · exact m5
    · rw [m6]
    · exact m7
    · exact m8
    · exact m9
    · rw [m10]
    · exact m11
    · rw [mb]
      exact bsl_cong (fun i hi => by unfold broB; simp (disch := omega) only [wr_n])
    · rw [mr]
      exact bsl_cong (fun i hi => by unfold hasB; simp (disch := omega) only [wr_n])
  · rw [if_neg hs, if_neg hs]
    obtain ⟨I', J', r1, r2, r3, r4⟩ := refuse_e hR (k := 4) (by omega) (by omega)
    exact ⟨-(nI 4), I', J', by rw [r1]; rfl, by rw [r2]; rfl, r3, r4⟩
