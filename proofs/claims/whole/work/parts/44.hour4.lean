/-! THE END OF AN HOUR: WHOLE -/
def mT (F : Row) (t : Int32) (j : Nat) : Bool := decide (F (52 + j) = t)
theorem ew_new {c e : Nat} {I1 I8 I' : Mem} {F G F' : Row} {VT S HB SU lev : Int32} {ha : Bool} (hW : EW c e I1 1 F) (fW : EWf c e I8 G) (h30 : e < 2 ^ 29)
    (gI : ∀ q i, 11 ≤ q → q ≤ 14 → I8 q i = I1 q i) (gF : ∀ i, ¬ (52 ≤ i ∧ i < 92) → G i = F i)
    (fI : ∀ q i, 1 ≤ q → q ≤ 14 → ¬ (q = 1 ∧ i = 7) → I' q i = I8 q i) (i7 : I' 1 7 = nI (e + 1)) (iR : ∀ q x, 16 ≤ q → q ≤ 23 → x ≠ e % 24 → I' q x = I1 q x) (iV : ∀ i, ¬ (e % 24 * 10 ≤ i ∧ i < e % 24 * 10 + 10) → I' 24 i = I1 24 i)
    (r16 : I' 16 (e % 24) = VT) (r17 : I' 17 (e % 24) = S) (r18 : I' 18 (e % 24) = b2i ha) (r19 : I' 19 (e % 24) = lev) (r20 : I' 20 (e % 24) = HB) (r21 : I' 21 (e % 24) = bsl (mT F 1) 0 c 0) (r22 : I' 22 (e % 24) = bsl (mT F 2) 0 c 0) (r23 : I' 23 (e % 24) = 0) (r24 : ∀ j, j < c → I' 24 (e % 24 * 10 + j) = vnow F j)
    (f142 : ∀ i, i < 142 → i ≠ 5 → i ≠ 6 → F' i = G i) (f5 : F' 5 = nI (e + 1)) (f6 : F' 6 = nI (min (e + 1) 24)) (fS : ∀ h k, h < e → e + 1 ≤ h + 24 → k < 18 → F' (hp (e + 1) h + k) = F (hp e h + k))
    (n0 : F' (hp (e + 1) e) = VT) (n1 : F' (hp (e + 1) e + 1) = S) (n2 : F' (hp (e + 1) e + 2) = b2i ha) (n3 : F' (hp (e + 1) e + 3) = HB) (n4 : F' (hp (e + 1) e + 4) = 0) (n5 : F' (hp (e + 1) e + 5) = lev) (n6 : F' (hp (e + 1) e + 6) = SU) (n8 : ∀ j, j < c → F' (hp (e + 1) e + 8 + j) = vnow F j)
    (hVT : VT = bsl (rpB F 0) 0 c 0) (hHB : HB = bsl (hasB F) 0 c 0) (hSU : SU = bsl (rpB F 1) 0 c 0) (hlv : bd (-10098) 10098 lev) : EW c (e + 1) I' 1 F' := by
  have h10 := hW.c10
  obtain ⟨⟨w1, w2, w3, w4⟩, q1, q2, q3, q4⟩ := hW
  obtain ⟨u1, u2, v1, v2⟩ := fW
  have bVT : ∀ i, i < c → bt VT i = (hasB F i && decide (F (52 + i) = 0)) := fun i hi => by
    rw [hVT, has_bsl hi (by omega)]
    unfold rpB
    simp
  have bHB : ∀ i, i < c → bt HB i = hasB F i := fun i hi => by rw [hHB, has_bsl hi (by omega)]
  have bSU : ∀ i, i < c → bt SU i = (hasB F i && decide (F (52 + i) = 1)) := fun i hi => by
    rw [hSU, has_bsl hi (by omega)]
    unfold rpB
    simp
  have old : ∀ x, kept (e + 1) x → x ≠ e → kept e x ∧ x % 24 ≠ e % 24 ∧ x < e ∧ e + 1 ≤ x + 24 := fun x kx hx => by
    unfold kept at *
    omega
  refine ⟨⟨?_, ?_, ?_, fun x kx => ?_⟩, ?_, ?_, ?_, fun x kx => ?_⟩
  · obtain ⟨a1, a2, a3, a4, a5, a6, a7, a8⟩ := u1
    refine ⟨a1, a2, ?_, f5, f6, ?_, ?_, ?_⟩
    · rw [f142 0 (by omega) (by omega) (by omega)]; exact a3
    · rw [f142 1 (by omega) (by omega) (by omega)]; exact a6
    · rw [f142 2 (by omega) (by omega) (by omega)]; exact a7
    · rw [f142 3 (by omega) (by omega) (by omega)]; exact a8
  · exact u2.cg h10 (fun i h1 h2 h3 => f142 i (by omega) (by omega) (by omega))
  · exact w3.cg h10 (fun i h1 h2 => (f142 i (by omega) (by omega) (by omega)).trans (gF i (by omega)))
  · by_cases hx : x = e
    · subst hx
      refine ⟨?_, ?_, ?_, ?_, ?_, ?_⟩
      · rw [n0, hVT]; exact fun i hi => bsl_hi (by omega) hi
      · rw [n3, hHB]; exact fun i hi => bsl_hi (by omega) hi
      · rw [n2]; cases ha
        · exact Or.inl rfl
        · exact Or.inr rfl
      · rw [n5]; exact hlv
      · intro j hj; rw [n8 j hj]; exact vnow_bd w2 hj
      · intro i hi
        rw [n0, n3, n4, n6, bVT i hi, bHB i hi, bSU i hi, b_0]
        refine ⟨fun h => ?_, fun h => by cases h⟩
        simp only [Bool.and_eq_true, decide_eq_true_eq] at h
        refine ⟨h.1, ?_, rfl⟩
        rw [h.2]
        simp
    · obtain ⟨kx', -, hx1, hx2⟩ := old x kx hx
      obtain ⟨b1, b2, b3, b4, b5, b6⟩ := w4 x kx'
      have s := fun k hk => fS x k hx1 hx2 hk
      have s0 := s 0 (by omega)
      rw [Nat.add_zero, Nat.add_zero] at s0
      refine ⟨?_, ?_, ?_, ?_, ?_, ?_⟩
      · rw [s0]; exact b1
      · rw [s 3 (by omega)]; exact b2
      · rw [s 2 (by omega)]; exact b3
      · rw [s 5 (by omega)]; exact b4
      · intro j hj; rw [Nat.add_assoc, s (8 + j) (by omega), ← Nat.add_assoc]; exact b5 j hj
      · rw [s0, s 3 (by omega), s 4 (by omega), s 6 (by omega)]; exact b6
  · obtain ⟨m0, m3, m4, m5, m6, m7, m8, m9, m10, m11, mb, mr⟩ := v1
    refine ⟨?_, ?_, ?_, ?_, ?_, ?_, ?_, ?_, ?_, ?_, ?_, ?_⟩
    · rw [fI _ _ (by omega) (by omega) (by omega)]; exact m0
    · rw [fI _ _ (by omega) (by omega) (by omega), f142 _ (by omega) (by omega) (by omega)]; exact m3
    · rw [fI _ _ (by omega) (by omega) (by omega), f142 _ (by omega) (by omega) (by omega)]; exact m4
    · rw [fI _ _ (by omega) (by omega) (by omega), f142 _ (by omega) (by omega) (by omega)]; exact m5
    · rw [fI _ _ (by omega) (by omega) (by omega), f142 _ (by omega) (by omega) (by omega)]; exact m6
    · rw [f5]; exact i7
    · rw [fI _ _ (by omega) (by omega) (by omega), f142 _ (by omega) (by omega) (by omega)]; exact m8
    · rw [fI _ _ (by omega) (by omega) (by omega), f142 _ (by omega) (by omega) (by omega)]; exact m9
    · rw [fI _ _ (by omega) (by omega) (by omega), f142 _ (by omega) (by omega) (by omega)]; exact m10
    · rw [fI _ _ (by omega) (by omega) (by omega), f142 _ (by omega) (by omega) (by omega)]; exact m11
    · rw [fI _ _ (by omega) (by omega) (by omega), mb]
      exact bsl_cong (fun i hi => by unfold broB; rw [f142 _ (by omega) (by omega) (by omega)])
    · rw [fI _ _ (by omega) (by omega) (by omega), mr]
      exact bsl_cong (fun i hi => by unfold hasB; rw [f142 _ (by omega) (by omega) (by omega)])
  · exact v2.cg h10 (fun q j h1 h2 h3 => fI _ _ (by omega) (by omega) (by omega)) (fun i h1 h2 h3 => f142 i (by omega) (by omega) (by omega))
  · exact q3.cg h10 (fun q j h1 h2 h3 => (fI _ _ (by omega) (by omega) (by omega)).trans (gI _ _ (by omega) (by omega))) (fun i h1 h2 => (f142 i (by omega) (by omega) (by omega)).trans (gF i (by omega)))
  · by_cases hx : x = e
    · subst hx
      refine ⟨?_, ?_, ?_, ?_, ?_, ?_, ?_, ?_⟩
      · rw [n0]; exact r16
      · rw [n1]; exact r17
      · rw [n2]; exact r18
      · rw [n5]; exact r19
      · rw [n3]; exact r20
      · rw [n4]; exact r23
      · intro j hj; rw [n8 j hj]; exact r24 j hj
      · intro j hj
        rw [n0, n3, n4, n6, show I' (1 + 20) (x % 24) = _ from r21, show I' (1 + 21) (x % 24) = _ from r22, has_bsl hj (by omega), has_bsl hj (by omega), bVT j hj, bHB j hj, bSU j hj, b_0]
        intro hh
        unfold mT
        rw [hh]
        have t2 := (w2 j hj).2.2.2.1
        unfold bd at t2
        refine ⟨by simp, ?_⟩
        have t : F (52 + j) = 0 ∨ F (52 + j) = 1 ∨ F (52 + j) = 2 := by
          have : (F (52 + j)).toInt = 0 ∨ (F (52 + j)).toInt = 1 ∨ (F (52 + j)).toInt = 2 := by omega
          rcases this with h | h | h
          · exact Or.inl (Int32.toInt_inj.mp h)
          · exact Or.inr (Or.inl (Int32.toInt_inj.mp h))
          · exact Or.inr (Or.inr (Int32.toInt_inj.mp h))
        rcases t with t | t | t <;> rw [t] <;> decide
    · obtain ⟨kx', hne, hx1, hx2⟩ := old x kx hx
      obtain ⟨z1, z2, z3, z4, z5, z6, z7, z8⟩ := q4 x kx'
      have s := fun k hk => fS x k hx1 hx2 hk
      have s0 := s 0 (by omega)
      rw [Nat.add_zero, Nat.add_zero] at s0
      refine ⟨?_, ?_, ?_, ?_, ?_, ?_, fun j hj => ?_, ?_⟩
      · rw [iR _ _ (by omega) (by omega) hne, s0]; exact z1
      · rw [iR _ _ (by omega) (by omega) hne, s 1 (by omega)]; exact z2
      · rw [iR _ _ (by omega) (by omega) hne, s 2 (by omega)]; exact z3
      · rw [iR _ _ (by omega) (by omega) hne, s 5 (by omega)]; exact z4
      · rw [iR _ _ (by omega) (by omega) hne, s 3 (by omega)]; exact z5
      · rw [iR _ _ (by omega) (by omega) hne, s 4 (by omega)]; exact z6
      · rw [show I' (1 + 23) (x % 24 * 10 + j) = _ from iV _ (by omega), Nat.add_assoc (hp (e + 1) x), s (8 + j) (by omega), ← Nat.add_assoc]; exact z7 j hj
      · rw [s0, s 3 (by omega), s 4 (by omega), s 6 (by omega), iR (1 + 20) _ (by omega) (by omega) hne, iR (1 + 21) _ (by omega) (by omega) hne]
        exact z8
/-- the class begins a row -/
theorem open_e {c e : Nat} {I : Mem} {F : Row} (hW : EW c e I 1 F) (h30 : e < 2 ^ 30) : ∃ I', fX5_openRow 1 I = some (nI (e % 24), I') ∧ (∀ q i, ¬ (q = 24 ∧ e % 24 * 10 ≤ i ∧ i < e % 24 * 10 + 10) → ¬ ((q = 16 ∨ (20 ≤ q ∧ q ≤ 23)) ∧ i = e % 24) → I' q i = I q i) ∧ I' 16 (e % 24) = bsl (rpB F 0) 0 c 0 ∧ I' 20 (e % 24) = bsl (hasB F) 0 c 0 ∧ I' 21 (e % 24) = bsl (mT F 1) 0 c 0 ∧ I' 22 (e % 24) = bsl (mT F 2) 0 c 0 ∧ I' 23 (e % 24) = 0 ∧ (∀ j, j < c → I' 24 (e % 24 * 10 + j) = vnow F j) := by
  have h10 := hW.c10
  have hr : e % 24 < 24 := Nat.mod_lt _ (by omega)
  have I7 : I 1 7 = nI e := hW.2.1.2.2.2.2.2.1.trans hW.1.1.2.2.2.1
  have m11 : I 2 1 = bsl (hasB F) 0 c 0 := hW.2.1.2.2.2.2.2.2.2.2.2.2.2
  obtain ⟨I1, a1, a2, a3⟩ := tv_e (k1 := 24) (N := 240) (st := e % 24 * 10) hW (by decide) zl24 (by omega) (by omega)
  have mm : ∀ (M : Mem) (t : Int32), M 2 0 = nI c → (∀ j, j < c → M 7 j = I 7 j) → fX0_membersIn 1 t M = some (bsl (mT F t) 0 c 0) := fun M t hm h7 => by
    rw [memb_e (b := 1) hm h10]
    congr 1
    exact bsl_cong (fun i hi => by unfold mT; rw [show M (1 + 6) i = _ from h7 i hi, show I 7 i = _ from (hW.2.2.1 i hi).2.2.2.2.1])
  have vt : bsl (hasB F) 0 c 0 &&& bsl (mT F 0) 0 c 0 = bsl (rpB F 0) 0 c 0 := by
    apply b_ext
    intro i hi
    rw [b_and, b_bsl hi _ _ _ (by omega), b_bsl hi _ _ _ (by omega), b_bsl hi _ _ _ (by omega), b_0]
    by_cases h : i < c
    · unfold rpB mT
      simp [h]
    · simp [h]
  have i1 : ∀ q i, q ≠ 24 → I1 q i = I q i := fun q i h => a2 q i (by omega)
  have hI0 : I 2 0 = nI c := hW.2.1.1
  refine ⟨wr (wr (wr (wr (wr I1 20 (e % 24) (bsl (hasB F) 0 c 0)) 21 (e % 24) (bsl (mT F 1) 0 c 0)) 22 (e % 24) (bsl (mT F 2) 0 c 0)) 16 (e % 24) (bsl (rpB F 0) 0 c 0)) 23 (e % 24) 0, ?_, fun q i h1 h2 => ?_, ?_, ?_, ?_, ?_, ?_, fun j hj => ?_⟩
  · unfold fX5_openRow
    rw [I7, row_e (by omega), ob_s, L10, nI_mul_n, show fX0_tellValues 1 (1 + 23) (nI (e % 24 * 10)) I = _ from a1, ob_s, show I1 (1 + 1) 1 = bsl (hasB F) 0 c 0 from (i1 2 1 (by omega)).trans m11, show ast I1 (1 + 19) 24 (nI (e % 24)) (bsl (hasB F) 0 c 0) = some (wr I1 20 (e % 24) (bsl (hasB F) 0 c 0)) from ast_n hr (by omega), ob_s, mm _ 1 (by rw [wr_n (by omega), i1 _ _ (by omega)]; exact hI0) (fun j hj => by rw [wr_n (by omega), i1 _ _ (by omega)]), ob_s]
    rw [show ∀ (M : Mem) v, ast M (1 + 20) 24 (nI (e % 24)) v = some (wr M 21 (e % 24) v) from fun M v => ast_n hr (by omega), ob_s, mm _ 2 (by rw [wr_n (by omega), wr_n (by omega), i1 _ _ (by omega)]; exact hI0) (fun j hj => by rw [wr_n (by omega), wr_n (by omega), i1 _ _ (by omega)]), ob_s, show ∀ (M : Mem) v, ast M (1 + 21) 24 (nI (e % 24)) v = some (wr M 22 (e % 24) v) from fun M v => ast_n hr (by omega), ob_s, mm _ 0 (by rw [wr_n (by omega), wr_n (by omega), wr_n (by omega), i1 _ _ (by omega)]; exact hI0) (fun j hj => by rw [wr_n (by omega), wr_n (by omega), wr_n (by omega), i1 _ _ (by omega)]), ob_s]
    rw [show ∀ (M : Mem) v, ast M (1 + 15) 24 (nI (e % 24)) v = some (wr M 16 (e % 24) v) from fun M v => ast_n hr (by omega), ob_s, show ∀ (M : Mem) v, ast M (1 + 22) 24 (nI (e % 24)) v = some (wr M 23 (e % 24) v) from fun M v => ast_n hr (by omega), ob_s]
    rw [show wr (wr (wr I1 20 (e % 24) (bsl (hasB F) 0 c 0)) 21 (e % 24) (bsl (mT F 1) 0 c 0)) 22 (e % 24) (bsl (mT F 2) 0 c 0) (1 + 1) 1 = bsl (hasB F) 0 c 0 by rw [wr_n (by omega), wr_n (by omega), wr_n (by omega), i1 _ _ (by omega)]; exact m11, vt]
  · rw [wr_n (by omega), wr_n (by omega), wr_n (by omega), wr_n (by omega), wr_n (by omega), a2 q i (by omega)]
  · rw [wr_n (by omega), wr_s]
  · rw [wr_n (by omega), wr_n (by omega), wr_n (by omega), wr_n (by omega), wr_s]
  · rw [wr_n (by omega), wr_n (by omega), wr_n (by omega), wr_s]
  · rw [wr_n (by omega), wr_n (by omega), wr_s]
  · rw [wr_s]
  · rw [wr_n (by omega), wr_n (by omega), wr_n (by omega), wr_n (by omega), wr_n (by omega), a3 j hj]
/-- what befalls the buoys when the hour has a level -/
theorem fleet_e {c e r : Nat} {S VT lev : Int32} {I J : Mem} {F : Row} (hr : r < 24) (hF : J 307 = F) (fW : EWf c e I (J 307)) (hsub : ∀ i, bt S i = true → bt VT i = true) (h17 : I 17 r = S) (h16 : I 16 r = VT) (j19 : J 306 19 = S) (h19 : I 19 r = lev) (j21 : J 306 21 = lev) (hlv : bd (-10098) 10098 lev) (h20 : I 20 r = bsl (hasB F) 0 c 0) (h21 : I 21 r = bsl (mT F 1) 0 c 0) (hvv : ∀ j, j < c → I 24 (r * 10 + j) = vnow F j ∧ J 315 j = vnow F j) :
    ∃ g I' J', (Option.bind (fX5_countStrikes 1 (nI r) I) fun I6 => Option.bind (fX5_countAgreed 1 (nI r) I6) fun I7 => Option.bind (fX5_trustAgain 1 I7) fun I8 => ob2 (fX5_dragVoters 1 (nI r) I8) fun x9 I10 => some (x9, I10)) = some (g, I') ∧ (Option.bind (fX8_strikes VT J) fun J8 => Option.bind (fX8_agrees (bsl (rpB F 1) 0 c 0) J8) fun J9 => ob2 (fX8_dragsOff VT J9) fun x10 J11 => some (x10, J11)) = some (g, J') ∧ EWf c e I' (J' 307) ∧ (∀ k i, ¬ (7 ≤ k ∧ k ≤ 10) → I' k i = I k i) ∧ (∀ k i, ¬ (k = 307 ∧ 52 ≤ i ∧ i < 92) → J' k i = J k i) ∧ (∀ i, c ≤ i → bt g i = false) := by
  have h10 : c ≤ 10 := fW.1.2.1
  have hvb : ∀ j, j < c → bd (-10098) 10098 (vnow F j) := fun j hj => vnow_bd (by rw [← hF]; exact fW.2.1) hj
  obtain ⟨Ia, Ja, a1, a2, a3, a4, a5⟩ := str_L (S := S) (V := VT) hr hsub c 0 zF zF I J (by omega) (zF_g (by omega)) (zF_g (by omega)) fW h17 h16 j19
  have hA : bsl (mT F 1) 0 c 0 &&& bsl (hasB F) 0 c 0 = bsl (rpB F 1) 0 c 0 := by
    apply b_ext
    intro i hi
    rw [b_and, b_bsl hi _ _ _ (by omega), b_bsl hi _ _ _ (by omega), b_bsl hi _ _ _ (by omega), b_0]
    by_cases h : i < c
    · unfold rpB mT
      simp [h, Bool.and_comm]
    · simp [h]
  obtain ⟨Ib, Jb, b1, b2, b3, b4, b5⟩ := agr_L (A := bsl (rpB F 1) 0 c 0) (lev := lev) (vv := vnow F) hr hvb hlv c 0 zF zF Ia Ja (by omega) (zF_g (by omega)) (zF_g (by omega)) a3 ((a4 _ _ (by omega)).trans h19) ((a5 _ _ (by omega)).trans j21) (fun j hj => ⟨(a4 _ _ (by omega)).trans (hvv j hj).1, (a5 _ _ (by omega)).trans (hvv j hj).2⟩)
  obtain ⟨Ic, Jc, c1, c2, c3, c4, c5⟩ := tru_L c 0 zF zF Ib Jb (by omega) (zF_g (by omega)) (zF_g (by omega)) b3
  obtain ⟨g, Id, Jd, d1, d2, d3, d4, d5, d6⟩ := dra_L (V := VT) hr c 0 zF zF 0 Ic Jc (by omega) (zF_g (by omega)) (zF_g (by omega)) c3 ((c4 _ _ (by omega)).trans ((b4 _ _ (by omega)).trans ((a4 _ _ (by omega)).trans h16)))
  refine ⟨g, Id, Jd, ?_, ?_, d3, fun k i h => ?_, fun k i h => ?_, fun i hi => ?_⟩
  · unfold fX5_countStrikes fX5_countAgreed fX5_trustAgain fX5_dragVoters
    rw [show fX5_countStrikes_L2 1 (nI r) zF 0 I = _ from a1, ob_s, ob_s, show ald Ia (1 + 20) 24 (nI r) = some (bsl (mT F 1) 0 c 0) from (ald_n hr (by omega)).trans (by rw [a4 _ _ (by omega), show I (1 + 20) r = _ from h21]), ob_s, show ald Ia (1 + 19) 24 (nI r) = some (bsl (hasB F) 0 c 0) from (ald_n hr (by omega)).trans (by rw [a4 _ _ (by omega), show I (1 + 19) r = _ from h20]), ob_s, hA, show fX5_countAgreed_L22 1 (bsl (rpB F 1) 0 c 0) (nI r) zF 0 Ia = _ from b1, ob_s, ob_s, show fX5_trustAgain_L2 1 zF 0 Ib = _ from c1, ob_s, ob_s, show fX5_dragVoters_L4 1 (nI r) zF 0 0 Ic = _ from d1]
    rfl
  · unfold fX8_strikes fX8_agrees fX8_dragsOff
    rw [show fX8_strikes_L2 VT zF 0 J = _ from a2, ob_s, ob_s, show fX8_agrees_L2 (bsl (rpB F 1) 0 c 0) zF 0 Ja = _ from b2, ob_s, show fX8_agrees_L74 zF 0 Jb = _ from c2, ob_s, ob_s, show fX8_dragsOff_L4 VT zF 0 0 Jc = _ from d2]
    rfl
  · rw [d4 k i (by omega), c4 k i (by omega), b4 k i (by omega), a4 k i (by omega)]
  · rw [d5 k i (by omega), c5 k i (by omega), b5 k i (by omega), a5 k i (by omega)]
  · by_cases h32 : i < 32
    · cases hb : bt g i
      · rfl
      · rcases d6 i h32 hb with h | h
        · rw [b_0] at h; cases h
        · omega
    · exact b_big (by omega)
theorem va_L {a c : Nat} {vv : Nat → Int32} {a4 : Int32} (h10 : c ≤ 10) (ha : a + 18 ≤ 574) (ha2 : 1 ≤ a) : ∀ (d b n : Nat) (J : Mem), b + d = 10 → d < n → J 307 0 = nI c → (∀ j, j < c → J 315 j = vv j) → ∃ J', fX8_ends_L100 (nI a) a4 n (nI b) J = some J' ∧ (∀ q i, ¬ (q = 307 ∧ a + 8 ≤ i ∧ i < a + 18) → J' q i = J q i) ∧ (∀ j, b ≤ j → j < c → J' 307 (a + 8 + j) = vv j) ∧ (∀ j, j < b → J' 307 (a + 8 + j) = J 307 (a + 8 + j)) := by
  intro d
  induction d with
  | zero =>
    intro b n J hb hn hc hv
    obtain ⟨n, rfl⟩ := fuel hn
    exact ⟨J, by rw [fX8_ends_L100, L10, if_pos (by rw [nI_leP (by omega) (by omega)]; omega)], fun _ _ _ => rfl, fun j h1 h2 => by omega, fun _ _ => rfl⟩
  | succ d ih =>
    intro b n J hb hn hc hv
    obtain ⟨n, rfl⟩ := fuel hn
    have hstep : fX8_ends_L100 (nI a) a4 (n + 1) (nI b) J = fX8_ends_L100 (nI a) a4 n (nI (b + 1)) (wr J 307 (a + 8 + b) (if b < c then vv b else 0)) := by
      rw [fX8_ends_L100, L10, if_neg (by rw [nI_leP (by omega) (by omega)]; omega), ald_0 (by omega) (by omega), ob_s, hc, L8, nI_add, nI_add, ald_n (by omega) (by omega), ob_s, nI_1]
      by_cases h : b < c
      · rw [if_neg (show ¬ nI c ≤ nI b by rw [nI_leP (by omega) (by omega)]; omega), ob_s, hv b h, ast_n (by omega) (by omega), ob_s, if_pos h]
      · rw [if_pos (show nI c ≤ nI b by rw [nI_leP (by omega) (by omega)]; omega), ob_s, ast_n (by omega) (by omega), ob_s, if_neg h]
    rw [hstep]
    obtain ⟨J', a1, a2, a3, a4⟩ := ih (b + 1) n (wr J 307 (a + 8 + b) (if b < c then vv b else 0)) (by omega) (by omega) (by rw [wr_n (by omega)]; exact hc) (fun j hj => by rw [wr_n (by omega)]; exact hv j hj)
    refine ⟨J', a1, fun q i h => (a2 q i h).trans (wr_n (by omega)), fun j h1 h2 => ?_, fun j hj => (a4 j (by omega)).trans (wr_n (by omega))⟩
    by_cases hjb : j = b
    · subst hjb
      rw [a4 j (by omega), wr_s, if_pos h2]
    · exact a3 j (by omega) h2
theorem fg7_L : ∀ (d j n : Nat) (I : Mem), j + d = 10 → d < n → ∃ I', fX0_forgetReports_L7 1 n (nI j) I = some I' ∧ (∀ q i, q ≠ 11 → I' q i = I q i) ∧ (∀ i, i < 10 → I' 11 i = if j ≤ i then 0 else I 11 i) := by
  intro d
  induction d with
  | zero =>
    intro j n I hj hn
    obtain ⟨n, rfl⟩ := fuel hn
    exact ⟨I, by rw [fX0_forgetReports_L7, L10, if_pos (by rw [nI_leP (by omega) (by omega)]; omega)], fun _ _ _ => rfl, fun i hi => by rw [if_neg (by omega)]⟩
  | succ d ih =>
    intro j n I hj hn
    obtain ⟨n, rfl⟩ := fuel hn
    rw [fX0_forgetReports_L7, L10, if_neg (by rw [nI_leP (by omega) (by omega)]; omega), show ast I (1 + 10) 10 (nI j) 0 = some (wr I 11 j 0) from ast_n (by omega) (by omega), ob_s, nI_1]
    obtain ⟨I', a1, a2, a3⟩ := ih (j + 1) n (wr I 11 j 0) (by omega) (by omega)
    refine ⟨I', a1, fun q i h => (a2 q i h).trans (wr_n (by omega)), fun i hi => ?_⟩
    rw [a3 i hi]
    by_cases h : j + 1 ≤ i
    · rw [if_pos h, if_pos (by omega)]
    · rw [if_neg h]
      by_cases h' : i = j
      · subst h'; rw [wr_s, if_pos (Nat.le_refl _)]
      · rw [wr_n (by omega), if_neg (by omega)]
theorem fg8_L {a4 : Int32} : ∀ (d j n : Nat) (J : Mem), j + d = 10 → d < n → ∃ J', fX8_ends_L169 a4 n (nI j) J = some J' ∧ (∀ q i, ¬ (q = 307 ∧ 92 ≤ i ∧ i < 112) → J' q i = J q i) ∧ (∀ i, i < 10 → J' 307 (92 + i) = (if j ≤ i then 0 else J 307 (92 + i)) ∧ J' 307 (102 + i) = (if j ≤ i then 0 else J 307 (102 + i))) := by
  intro d
  induction d with
  | zero =>
    intro j n J hj hn
    obtain ⟨n, rfl⟩ := fuel hn
    exact ⟨J, by rw [fX8_ends_L169, L10, if_pos (by rw [nI_leP (by omega) (by omega)]; omega)], fun _ _ _ => rfl, fun i hi => by rw [if_neg (by omega), if_neg (by omega)]; exact ⟨rfl, rfl⟩⟩
  | succ d ih =>
    intro j n J hj hn
    obtain ⟨n, rfl⟩ := fuel hn
    rw [fX8_ends_L169, L10, if_neg (by rw [nI_leP (by omega) (by omega)]; omega), L92, L102, nI_add, nI_add, ast_n (by omega) (by omega), ob_s, ast_n (by omega) (by omega), ob_s, nI_1]
    obtain ⟨J', a1, a2, a3⟩ := ih (j + 1) n (wr (wr J 307 (92 + j) 0) 307 (102 + j) 0) (by omega) (by omega)
    refine ⟨J', a1, fun q i h => (a2 q i h).trans (by rw [wr_n (by omega), wr_n (by omega)]), fun i hi => ?_⟩
    obtain ⟨b1, b2⟩ := a3 i hi
    rw [b1, b2]
    by_cases h : j + 1 ≤ i
    · rw [if_pos h, if_pos h, if_pos (by omega), if_pos (by omega)]; exact ⟨rfl, rfl⟩
    · rw [if_neg h, if_neg h]
      by_cases h' : i = j
      · subst h'
        rw [wr_n (by omega), wr_s, wr_s, if_pos (Nat.le_refl _), if_pos (Nat.le_refl _)]; exact ⟨rfl, rfl⟩
      · rw [wr_n (by omega), wr_n (by omega), wr_n (by omega), wr_n (by omega), if_neg (by omega), if_neg (by omega)]; exact ⟨rfl, rfl⟩
theorem ew_forget {c e : Nat} {I I' : Mem} {F F' : Row} (hW : EW c e I 1 F) (hI : ∀ q i, q ≠ 11 → ¬ (q = 2 ∧ i = 1) → I' q i = I q i) (h1 : I' 2 1 = 0) (h11 : ∀ i, i < 10 → I' 11 i = 0) (hF : ∀ i, ¬ (92 ≤ i ∧ i < 112) → F' i = F i) (hF2 : ∀ i, i < 10 → F' (92 + i) = 0 ∧ F' (102 + i) = 0) : EW c e I' 1 F' := by
  have h10 := hW.c10
  obtain ⟨⟨w1, w2, w3, w4⟩, q1, q2, q3, q4⟩ := hW
  refine ⟨⟨w1.cg (fun i h1 h2 => hF i (by omega)), fun j hj => ?_, w3.cg h10 (fun i h1 h2 => hF i (by omega)), w4.cg h10 (fun i h1 h2 => hF i (by omega))⟩, ?_, fun j hj => ?_, q3.cg h10 (fun q j h1 h2 h3 => hI _ _ (by omega) (by omega)) (fun i h1 h2 => hF i (by omega)), q4.cg h10 (fun q j h1 h2 => hI _ _ (by omega) (by omega)) (fun i h1 h2 => hF i (by omega))⟩
  · obtain ⟨x1, x2, x3, x4, x5, x6⟩ := w2 j hj
    rw [hF (22 + j) (by omega), hF (32 + j) (by omega), hF (42 + j) (by omega), hF (52 + j) (by omega), (hF2 j (by omega)).1, (hF2 j (by omega)).2]
    exact ⟨x1, x2, x3, x4, Or.inl rfl, by unfold bd; decide⟩
  · obtain ⟨m0, m3, m4, m5, m6, m7, m8, m9, m10, m11, mb, mr⟩ := q1
    refine ⟨?_, ?_, ?_, ?_, ?_, ?_, ?_, ?_, ?_, ?_, ?_, ?_⟩
    · rw [hI _ _ (by omega) (by omega)]; exact m0
    · rw [hI _ _ (by omega) (by omega), hF _ (by omega)]; exact m3
    · rw [hI _ _ (by omega) (by omega), hF _ (by omega)]; exact m4
    · rw [hI _ _ (by omega) (by omega), hF _ (by omega)]; exact m5
    · rw [hI _ _ (by omega) (by omega), hF _ (by omega)]; exact m6
    · rw [hI _ _ (by omega) (by omega), hF _ (by omega)]; exact m7
    · rw [hI _ _ (by omega) (by omega), hF _ (by omega)]; exact m8
    · rw [hI _ _ (by omega) (by omega), hF _ (by omega)]; exact m9
    · rw [hI _ _ (by omega) (by omega), hF _ (by omega)]; exact m10
    · rw [hI _ _ (by omega) (by omega), hF _ (by omega)]; exact m11
    · rw [hI _ _ (by omega) (by omega), mb]
      exact bsl_cong (fun i hi => by unfold broB; rw [hF _ (by omega)])
    · rw [show I' (1 + 1) 1 = 0 from h1]
      exact (itr_id _ _ _ fun i a _ hi => by unfold hasB; rw [(hF2 i (by omega)).1]; simp).symm
  · obtain ⟨y1, y2, y3, y4, y5, y6, y7, y8, y9⟩ := q2 j hj
    rw [hI _ _ (by omega) (by omega), hI _ _ (by omega) (by omega), hI _ _ (by omega) (by omega), hI _ _ (by omega) (by omega), hI _ _ (by omega) (by omega), hI _ _ (by omega) (by omega), hI _ _ (by omega) (by omega), hI _ _ (by omega) (by omega), show I' (1 + 10) j = 0 from h11 j (by omega), hF _ (by omega), hF _ (by omega), hF _ (by omega), hF _ (by omega), hF _ (by omega), hF _ (by omega), hF _ (by omega), hF _ (by omega), (hF2 j (by omega)).2]
    exact ⟨y1, y2, y3, y4, y5, y6, y7, y8, rfl⟩
