/-! THE END OF AN HOUR: PUT TOGETHER -/
theorem to_L {c e : Nat} {g : Int32} (h30 : e < 2 ^ 30) : ∀ (d h n m : Nat) (I J : Mem), e ≤ h + 24 → h + d = e → d < n → d < m → EW c e I 1 (J 307) →
    ∃ I' J', fX5_takeOut_L5 1 g n (nI h) I = some I' ∧ fX8_takesOut_L5 g m (nI h) J = some J' ∧ EW c e I' 1 (J' 307) ∧ (∀ q i, ¬ (1 ≤ q ∧ q ≤ 24) → ¬ (52 ≤ q ∧ q ≤ 54) → I' q i = I q i) ∧ (∀ q i, q ≠ 307 → q ≠ 315 → ¬ (q = 306 ∧ 19 ≤ i ∧ i ≤ 21) → J' q i = J q i) := by
  intro d
  induction d with
  | zero =>
    intro h n m I J h24 hd hn hm hW
    obtain ⟨n, rfl⟩ := fuel hn
    obtain ⟨m, rfl⟩ := fuel hm
    have I7 : I 1 7 = nI e := hW.2.1.2.2.2.2.2.1.trans hW.1.1.2.2.2.1
    refine ⟨I, J, ?_, ?_, hW, fun _ _ _ _ => rfl, fun _ _ _ _ _ => rfl⟩
    · rw [fX5_takeOut_L5, I7, if_pos (by rw [nI_leP (by omega) (by omega)]; omega)]
    · rw [fX8_takesOut_L5, L5, ald_n (by omega) (by omega), hW.1.1.2.2.2.1, ob_s, if_pos (by rw [nI_leP (by omega) (by omega)]; omega)]
  | succ d ih =>
    intro h n m I J h24 hd hn hm hW
    obtain ⟨n, rfl⟩ := fuel hn
    obtain ⟨m, rfl⟩ := fuel hm
    have h10 := hW.c10
    have k : kept e h := by unfold kept; omega
    have hk := kept_hp k
    have hr : h % 24 < 24 := Nat.mod_lt _ (by omega)
    have I7 : I 1 7 = nI e := hW.2.1.2.2.2.2.2.1.trans hW.1.1.2.2.2.1
    have J5 : J 307 5 = nI e := hW.1.1.2.2.2.1
    have J6 : J 307 6 = nI (min e 24) := hW.1.1.2.2.2.2.1
    obtain ⟨z1, z2, z3, z4, z5, z6, z7, z8⟩ := hW.2.2.2.2 h k
    have z1 : I 16 (h % 24) = J 307 (hp e h) := z1
    have z6 : I 23 (h % 24) = J 307 (hp e h + 4) := z6
    have wq := hW.1.2.2.2 h k
    obtain ⟨q1, q2, q3, q4, q5, q6⟩ := wq
    have ds7 : fX5_draggedSince 1 g (nI h) I = some (bsl (dsB (J 307) g h) 0 c 0) := by
      unfold fX5_draggedSince
      rw [show fX5_draggedSince_L5 1 g (nI h) zF 0 0 I = _ from ds7_L (F := J 307) h10 hW.2.1.1 (fun j hj => (hW.2.2.1 j hj).2.2.2.2.2.2.2.1) c 0 zF 0 (by omega) (zF_g (by omega))]
      rfl
    have ds8 : fX8_takesOut_L20 (nI h) g zF 0 0 J = some (bsl (dsB (J 307) g h) 0 c 0) := ds8_L (F := J 307) h10 hW.1.1.2.2.1 rfl c 0 zF 0 (by omega) (zF_g (by omega))
    have of0 : fX8_of (nI h) 0 J = some (J 307 (hp e h)) := of_e (w := 0) J5 J6 h30 k (by omega)
    have neh : ¬ nI e ≤ nI h := by rw [nI_leP (by omega) (by omega)]; omega
    generalize hD : bsl (dsB (J 307) g h) 0 c 0 = D at *
    rw [fX5_takeOut_L5, I7, if_neg neh, row_e (by omega), ob_s, show ald I (1 + 15) 24 (nI (h % 24)) = some (J 307 (hp e h)) from (ald_n hr (by omega)).trans (by rw [show I (1 + 15) (h % 24) = _ from z1]), ob_s, ds7, ob_s, fX8_takesOut_L5, L5, ald_n (by omega) (by omega), J5, ds8, of0, nI_1]
    simp only [ob_s]
    rw [if_neg neh, Int32.and_comm D (J 307 (hp e h))]
    by_cases h0 : J 307 (hp e h) &&& D = 0
    · rw [if_pos h0, if_pos h0, ob_s, ob_s]
      exact ih (h + 1) n m I J (by omega) (by omega) (by omega) (by omega) hW
    · rw [if_neg h0, if_neg h0]
      generalize hO : J 307 (hp e h) &&& D = out at *
      have hs : ∀ i, c ≤ i → bt (J 307 (hp e h) &&& (out ^^^ (-1))) i = false := and_hi q1
      generalize hV : J 307 (hp e h) &&& (out ^^^ (-1)) = V' at *
      -- the class
      have hok : tOk c V' (qV (J 307)) (qW (J 307) (hp e h)) := ⟨h10, fun j hj _ => ⟨(hW.1.2.1 j hj).1, q5 j hj⟩⟩
      obtain ⟨I3, t1, t2, t3, t4, t5⟩ := telL (r := h % 24) (c := c) (s := V') (tol := J 307 1) (V := qV (J 307)) (W := qW (J 307) (hp e h)) (I := wr (wr I 16 (h % 24) V') 23 (h % 24) (J 307 (hp e h + 4) ||| out)) hr (by rw [wr_n (by omega), wr_s]) hs (fun i hi => by rw [wr_n (by omega), wr_n (by omega)]; exact (hW.2.2.1 i hi).2.1) (fun i hi _ => by rw [wr_n (by omega), wr_n (by omega)]; exact z7 i hi) hok hW.bt1 (by rw [wr_n (by omega), wr_n (by omega)]; exact hW.2.1.2.1)
      -- the reference
      have sa : fX8_sets (nI h) 0 V' J = some (wr J 307 (hp e h) V') := sets_e (w := 0) J5 J6 h30 k (by omega)
      have oa : fX8_of (nI h) 4 (wr J 307 (hp e h) V') = some (J 307 (hp e h + 4)) := (of_e (w := 4) (by rw [wr_n (by omega)]; exact J5) (by rw [wr_n (by omega)]; exact J6) h30 k (by omega)).trans (by rw [wr_n (by omega)])
      have sb : fX8_sets (nI h) 4 (J 307 (hp e h + 4) ||| out) (wr J 307 (hp e h) V') = some (wr (wr J 307 (hp e h) V') 307 (hp e h + 4) (J 307 (hp e h + 4) ||| out)) := sets_e (w := 4) (by rw [wr_n (by omega)]; exact J5) (by rw [wr_n (by omega)]; exact J6) h30 k (by omega)
      obtain ⟨Jc, c1, c2, c3⟩ := lays_e (J := wr (wr J 307 (hp e h) V') 307 (hp e h + 4) (J 307 (hp e h + 4) ||| out)) h30 k (by rw [wr_n (by omega), wr_n (by omega)]; exact J5) (by rw [wr_n (by omega), wr_n (by omega)]; exact J6)
      have cF : ∀ i, i ≠ hp e h → i ≠ hp e h + 4 → Jc 307 i = J 307 i := fun i h1 h2 => by rw [c2 _ _ (by omega), wr_n (by omega), wr_n (by omega)]
      have c0 : Jc 307 (hp e h) = V' := by rw [c2 _ _ (by omega), wr_n (by omega), wr_s]
      have c4 : Jc 307 (hp e h + 4) = J 307 (hp e h + 4) ||| out := by rw [c2 _ _ (by omega), wr_s]
      have oc : fX8_of (nI h) 0 Jc = some V' := (of_e (w := 0) (by rw [cF _ (by omega) (by omega)]; exact J5) (by rw [cF _ (by omega) (by omega)]; exact J6) h30 k (by omega)).trans (by rw [Nat.add_zero, c0])
      obtain ⟨Jd, d1, d2, d3, d4, d5⟩ := tells_e (c := c) (s := V') (tol := J 307 1) (V := qV (J 307)) (W := qW (J 307) (hp e h)) (J := Jc) (by rw [cF _ (by omega) (by omega)]; exact hW.1.1.2.2.1) (cF _ (by omega) (by omega)) (fun i hi => cF _ (by omega) (by omega)) (fun i hi _ => by rw [c3 i (by omega), wr_n (by omega), wr_n (by omega)]; rfl) hok
      have dF : ∀ i, Jd 307 i = Jc 307 i := fun i => d2 _ _ (by omega)
      have kl := keep8 (J := Jd) h30 k (by rw [dF, cF _ (by omega) (by omega)]; exact J5) (by rw [dF, cF _ (by omega) (by omega)]; exact J6) d4
      have hlb := lev_bd (tol := J 307 1) (m := tMid c V' (qV (J 307)) (qW (J 307) (hp e h)) 100000) hok
      have hsb : ∀ i, bt (tSup c V' (qW (J 307) (hp e h)) (J 307 1) (tMid c V' (qV (J 307)) (qW (J 307) (hp e h)) 100000)) i = true → bt V' i = true ∧ i < c := fun i hi => sup_sub h10 i hi
      generalize hSup : tSup c V' (qW (J 307) (hp e h)) (J 307 1) (tMid c V' (qV (J 307)) (qW (J 307) (hp e h)) 100000) = Su at *
      generalize hHas : tHas c V' (qV (J 307)) (qW (J 307) (hp e h)) (J 307 1) (tMid c V' (qV (J 307)) (qW (J 307) (hp e h)) 100000) = Ha at *
      generalize hLev : tLev c V' (qV (J 307)) (qW (J 307) (hp e h)) (J 307 1) (tMid c V' (qV (J 307)) (qW (J 307) (hp e h)) 100000) = Le at *
      rw [d3, d5] at kl
      have Jq : ∃ Je, (wr (wr (wr (wr Jd 307 (hp e h + 1) Su) 307 (hp e h + 2) (b2i Ha)) 307 (hp e h + 5) Le) 307 8 (J 307 8 + 1)) = Je := ⟨_, rfl⟩
      obtain ⟨Je, hJe⟩ := Jq
      have Iq : ∃ Ie, wr I3 1 9 (I 1 9 + 1) = Ie := ⟨_, rfl⟩
      obtain ⟨Ie, hIe⟩ := Iq
      have eF : ∀ i, ¬ (hp e h ≤ i ∧ i < hp e h + 18) → i ≠ 8 → Je 307 i = J 307 i := fun i h1 h2 => by
        rw [← hJe, wr_n (by omega), wr_n (by omega), wr_n (by omega), wr_n (by omega), dF, cF _ (by omega) (by omega)]
      have x0 : Je 307 (hp e h) = V' := by rw [← hJe, wr_n (by omega), wr_n (by omega), wr_n (by omega), wr_n (by omega), dF, c0]
      have x1 : Je 307 (hp e h + 1) = Su := by rw [← hJe, wr_n (by omega), wr_n (by omega), wr_n (by omega), wr_s]
      have x2 : Je 307 (hp e h + 2) = b2i Ha := by rw [← hJe, wr_n (by omega), wr_n (by omega), wr_s]
      have x5 : Je 307 (hp e h + 5) = Le := by rw [← hJe, wr_n (by omega), wr_s]
      have x4 : Je 307 (hp e h + 4) = J 307 (hp e h + 4) ||| out := by rw [← hJe, wr_n (by omega), wr_n (by omega), wr_n (by omega), wr_n (by omega), dF, c4]
      have xo : ∀ i, hp e h ≤ i → i < hp e h + 18 → i ≠ hp e h → i ≠ hp e h + 1 → i ≠ hp e h + 2 → i ≠ hp e h + 4 → i ≠ hp e h + 5 → Je 307 i = J 307 i := fun i h1 h2 h3 h4 h5 h6 h7 => by
        rw [← hJe, wr_n (by omega), wr_n (by omega), wr_n (by omega), wr_n (by omega), dF, cF _ (by omega) (by omega)]
      have i3 : ∀ q i, ¬ (52 ≤ q ∧ q ≤ 54) → ¬ (16 ≤ q ∧ q ≤ 23 ∧ i = h % 24) → ¬ (q = 1 ∧ i = 9) → Ie q i = I q i := fun q i h1 h2 h3 => by
        rw [← hIe, wr_n (by omega), t2 q i h1 (by omega), wr_n (by omega), wr_n (by omega)]
      have y16 : Ie 16 (h % 24) = V' := by rw [← hIe, wr_n (by omega), t2 _ _ (by omega) (by omega), wr_n (by omega), wr_s]
      have y23 : Ie 23 (h % 24) = J 307 (hp e h + 4) ||| out := by rw [← hIe, wr_n (by omega), t2 _ _ (by omega) (by omega), wr_s]
      have y17 : Ie 17 (h % 24) = Su := by rw [← hIe, wr_n (by omega), t3]
      have y18 : Ie 18 (h % 24) = b2i Ha := by rw [← hIe, wr_n (by omega), t4]
      have y19 : Ie 19 (h % 24) = Le := by rw [← hIe, wr_n (by omega), t5]
      have y20 : ∀ q, (q = 20 ∨ q = 21 ∨ q = 22) → Ie q (h % 24) = I q (h % 24) := fun q hq => by
        rw [← hIe, wr_n (by omega), t2 _ _ (by omega) (by omega), wr_n (by omega), wr_n (by omega)]
      have bV : ∀ i, i < 32 → bt V' i = (bt (J 307 (hp e h)) i && !bt out i) := fun i hi => by rw [← hV, b_and, b_not hi]
      have bO : ∀ i, bt out i = (bt (J 307 (hp e h)) i && bt D i) := fun i => by rw [← hO, b_and]
      have hWe : EW c e Ie 1 (Je 307) := by
        refine ew_row hW k ⟨?_, ?_, ?_, ?_, ?_, ?_⟩ ⟨?_, ?_, ?_, ?_, ?_, ?_, ?_, ?_⟩ (fun q i h1 h2 h3 h4 => i3 q i (by omega) (by omega) h2) ?_ eF
        · rw [x0]; exact hs
        · rw [xo (hp e h + 3) (by omega) (by omega) (by omega) (by omega) (by omega) (by omega) (by omega)]; exact q2
        · rw [x2]; cases Ha
          · exact Or.inl rfl
          · exact Or.inr rfl
        · rw [x5]; exact hlb
        · intro j hj
          rw [xo (hp e h + 8 + j) (by omega) (by omega) (by omega) (by omega) (by omega) (by omega) (by omega)]
          exact q5 j hj
        · intro i hi
          rw [x0, x4, xo (hp e h + 3) (by omega) (by omega) (by omega) (by omega) (by omega) (by omega) (by omega), xo (hp e h + 6) (by omega) (by omega) (by omega) (by omega) (by omega) (by omega) (by omega), bV i (by omega), b_or, bO]
          obtain ⟨g1, g2⟩ := q6 i hi
          cases hv : bt (J 307 (hp e h)) i
          · simp only [Bool.false_and, Bool.or_false, Bool.false_eq_true, false_implies, true_and]
            exact g2
          · obtain ⟨g3, g4, g5⟩ := g1 hv
            rw [g3, g4, g5]
            cases bt D i <;> simp
        · rw [x0]; exact y16
        · rw [x1]; exact y17
        · rw [x2]; exact y18
        · rw [x5]; exact y19
        · rw [xo (hp e h + 3) (by omega) (by omega) (by omega) (by omega) (by omega) (by omega) (by omega), y20 (1 + 19) (by omega)]; exact z5
        · rw [x4]; exact y23
        · intro j hj
          rw [xo (hp e h + 8 + j) (by omega) (by omega) (by omega) (by omega) (by omega) (by omega) (by omega), i3 (1 + 23) _ (by omega) (by omega) (by omega)]
          exact z7 j hj
        · intro j hj
          rw [x0, x4, xo (hp e h + 3) (by omega) (by omega) (by omega) (by omega) (by omega) (by omega) (by omega), xo (hp e h + 6) (by omega) (by omega) (by omega) (by omega) (by omega) (by omega) (by omega), y20 (1 + 20) (by omega), y20 (1 + 21) (by omega), bV j (by omega), b_or, bO]
          intro h3
          obtain ⟨z9, z10⟩ := z8 j hj h3
          refine ⟨z9, z10.trans ?_⟩
          cases bt (J 307 (hp e h)) j <;> cases bt D j <;> cases bt (J 307 (hp e h + 4)) j <;> simp
        · rw [← hIe, ← hJe, wr_s, wr_s, show I 1 9 = J 307 8 from hW.2.1.2.2.2.2.2.2.2.1]
      obtain ⟨I', J', a1, a2, a3, a4, a5⟩ := ih (h + 1) n m Ie Je (by omega) (by omega) (by omega) (by omega) hWe
      refine ⟨I', J', ?_, ?_, a3, fun q i h1 h2 => (a4 q i h1 h2).trans (i3 q i h2 (by omega) (by omega)), fun q i h1 h2 h3 => (a5 q i h1 h2 h3).trans ?_⟩
      · rw [← a1, show ast I (1 + 15) 24 (nI (h % 24)) V' = some (wr I 16 (h % 24) V') from ast_n hr (by omega), ob_s, show ald (wr I 16 (h % 24) V') (1 + 22) 24 (nI (h % 24)) = some (J 307 (hp e h + 4)) from (ald_n hr (by omega)).trans (by rw [wr_n (by omega), show I (1 + 22) (h % 24) = _ from z6]), ob_s, show ast (wr I 16 (h % 24) V') (1 + 22) 24 (nI (h % 24)) (J 307 (hp e h + 4) ||| out) = some (wr (wr I 16 (h % 24) V') 23 (h % 24) (J 307 (hp e h + 4) ||| out)) from ast_n hr (by omega), ob_s, t1, ob_s, ob_s, show I3 1 9 = I 1 9 by rw [t2 _ _ (by omega) (by omega), wr_n (by omega), wr_n (by omega)], hIe]
      · rw [← a2, sa, ob_s, oa, ob_s, sb, ob_s, c1, ob_s, oc, ob_s, d1, ob_s, kl, ob_s, show ald (wr (wr (wr Jd 307 (hp e h + 1) Su) 307 (hp e h + 2) (b2i Ha)) 307 (hp e h + 5) Le) 307 574 8 = some (J 307 8) from (ald_n (j := 8) (by omega) (by omega)).trans (by rw [wr_n (by omega), wr_n (by omega), wr_n (by omega), dF, cF _ (by omega) (by omega)]), ob_s, show ast (wr (wr (wr Jd 307 (hp e h + 1) Su) 307 (hp e h + 2) (b2i Ha)) 307 (hp e h + 5) Le) 307 574 8 (J 307 8 + 1) = some Je from (ast_n (j := 8) (by omega) (by omega)).trans (by rw [hJe]), ob_s, ob_s]
      · rw [← hJe, wr_n (by omega), wr_n (by omega), wr_n (by omega), wr_n (by omega), d2 q i (by omega), c2 q i h2, wr_n (by omega), wr_n (by omega)]
