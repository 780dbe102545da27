/-! WHAT STANDS BEHIND A COMMAND'S WORD -/
theorem hit_E {I : Mem} (h : EI I) (hS : SE I) : ∃ I', fX7_readHitBuoys I = some I' ∧ SE I' ∧ pI I I' ∧ ∀ j, I' 56 j = I 56 j := by
  unfold fX7_readHitBuoys
  rw [num_E h, ob2_some, look_E h, ob2_some, fail_E h]
  simp only [ob_s, ite_self]
  rw [take_E h, ob_s]
  obtain ⟨I1, a1, a2, a3, a4⟩ := add_E hS 0
  obtain ⟨I2, b1, b2, b3, b4⟩ := add_E a2 0
  rw [a1, ob_s, b1, ob_s]
  exact ⟨I2, rfl, b2, a3.tr b3, fun j => (b4 j).trans (a4 j)⟩
def BO (c : Nat) (T : Nat → Nat) (L N i k s p : Nat) (K : Int32) (I J : Mem) (o : Option Mem) (r : Option (Int32 × Mem)) : Prop :=
  (∃ i' s1 p1 I' J', i ≤ i' ∧ o = some I' ∧ r = some (1, J') ∧ St T L N i' I' J' ∧ (I' 63 k = nI s1 ∧ J' 306 23 = nI p1 ∧ s ≤ s1 ∧ s1 ≤ i' ∧ p ≤ p1 ∧ p1 ≤ i' + 1) ∧ CB c I' J' K s s1 p p1 ∧ cI k s I I' ∧ cJ (p + 1) J J') ∨
  ∃ I' J', o = some I' ∧ r = some (0, J') ∧ Er I' J' ∧ SE I' ∧ pI I I' ∧ pJ J J'
section BD
variable {T : Nat → Nat} {c L N i k s p : Nat} {I J : Mem} {K : Int32}
theorem BO.b1 {o : Option Mem} {r : Option (Int32 × Mem)} (h : BO c T L N i k s p K I J o r) : BO c T L N i k s p K I J (Option.bind o fun I' => some I') r := by
  rcases h with ⟨i', s1, p1, I', J', a0, a1, a2⟩ | ⟨I', J', a1, a2⟩
  · exact Or.inl ⟨i', s1, p1, I', J', a0, by rw [a1]; rfl, a2⟩
  · exact Or.inr ⟨I', J', by rw [a1]; rfl, a2⟩
theorem BO.b2 {o : Option Mem} {r : Option (Int32 × Mem)} (h : BO c T L N i k s p K I J o r) : BO c T L N i k s p K I J o (ob2 r fun x J' => Option.bind (zbo x) fun v9 => some (v9, J')) := by
  rcases h with ⟨i', s1, p1, I', J', a0, a1, a2, a3⟩ | ⟨I', J', a1, a2, a3⟩
  · exact Or.inl ⟨i', s1, p1, I', J', a0, a1, by rw [a2]; rfl, a3⟩
  · exact Or.inr ⟨I', J', a1, by rw [a2]; rfl, a3⟩
/-- where a command's body begins -/
def BH (c : Nat) (T : Nat → Nat) (L N i k s p y : Nat) (I J : Mem) : Prop :=
  St T L N i I J ∧ (I 61 0 = nI k ∧ k ≤ 40 ∧ I 63 k = nI s ∧ J 306 23 = nI (p + 1)) ∧ s ≤ i ∧ p + 1 ≤ i ∧ J 316 p = nI y ∧ I 2 0 = nI c ∧ J 307 0 = nI c ∧ 2 ≤ c ∧ c ≤ 10
theorem BH.err {y : Nat} (h : BH c T L N i k s p y I J) {I' : Mem} (f : fI I I') : SE I' := by
  obtain ⟨h, ⟨h1, h2, h3, -⟩, h5, -⟩ := h
  have := h.N5
  have := h.iN
  exact ⟨k, s, h2, by omega, by rw [f _ _ (by omega)]; exact h1, by rw [f _ _ (by omega)]; exact h3⟩
/-- one number -/
theorem b_arg {y K : Nat} {a : Nat} {b : Int32} (h : BH c T L N i k s p y I J) (ha : a ≤ 1) (hb : b.toInt < 1000000) (hv : ∀ v : Nat, a ≤ v → (v : Int) ≤ b.toInt → (K = 13 ∧ y = 2 ∧ v + 1 < c ∨ K = 14 ∧ y = 3 ∧ 1 ≤ v ∧ v ≤ 99 ∨ K = 15 ∧ y = 4 ∧ v < c ∨ K = 10 ∧ y = 5 ∧ 1 ≤ v ∧ v ≤ 9999)) :
    BO c T L N i k s p (nI K) I J (ob2 (fX2_takeNumber (nI a) b I) fun x I7 => Option.bind (fX4_add x I7) fun I8 => some I8) (fX8_takesCode (nI a) b J) := by
  obtain ⟨h, ⟨h1, h2, h3, h4⟩, h5, h6, h7, -⟩ := h
  rcases arg_S h h1 h2 h3 h5 h4 (by omega) ha hb with ⟨v, J3, ⟨b1, b2, b3, b4⟩, c1, c2, c3, hS, f3, -⟩ | ⟨I', I2, J', c1, c2, c3, c4, c5, c6, c7⟩
  · rw [c1, ob2_some, c2, ob_s, c3]
    refine Or.inl ⟨i + 1, s + 1, p + 2, _, _, by omega, rfl, rfl, hS, ⟨ad_k, em_k, by omega, by omega, by omega, by omega⟩, Or.inr (Or.inr ⟨K, y, v, ⟨rfl, rfl, rfl, ?_, ad_s, em_s⟩, hv v b2 b3⟩), (fI.wr5.c (s := s)).tr cI.ad (Nat.le_refl _), (f3.c (p := p + 1)).tr cJ.em (Nat.le_refl _)⟩
    rw [em_o (by omega) (by omega), f3 _ _ (by omega)]
    exact h7
  · rw [c1, ob2_some, c2, ob_s, c3]
    exact Or.inr ⟨I2, J', rfl, rfl, c4, c5, c6, c7⟩
/-- the reports of an hour -/
theorem b_hour (h : BH c T L N i k s p 0 I J) : BO c T L N i k s p (nI 11) I J (fX7_readReports I) (fX8_readHour J) := by
  obtain ⟨h, ⟨h1, h2, h3, h4⟩, h5, h6, h7, h8, h9, h10⟩ := h
  have hN5 := h.N5
  have hiN := h.iN
  unfold fX7_readReports fX8_readHour
  rw [show fX8_emits 0 J = _ from emi_e h4 (by omega), ob_s, h4]
  obtain ⟨I', J', e1, e2⟩ := rep_L (T := T) (L := L) (N := N) (k := k) (s := s) (p := p) h2 h10 (N - i) zF zF i 0 0 I (em J (p + 1) 0) rfl (zF_g (by omega)) (zF_g (by omega)) cB_0 (h.cg (fun _ _ _ _ => rfl) (fun k j q => em_o (by omega) (by omega))) h1 h8 (by rw [em_o (by omega) (by omega)]; exact h9) h3 em_k (by omega) (by omega) em_s (fun x hx => absurd hx (Nat.not_lt_zero _))
  rw [show fX7_readReports_L4 zF 0 0 I = _ from e1, ob_s]
  rcases e2 with ⟨i', r', c1, c2, c3, c4, c5, c6, c7, c8, c9, c10, c11, c12⟩ | ⟨c1, c2, c3, c4, c5⟩
  · rw [show fX8_readHour_L12 (nI (p + 1)) zF 0 (em J (p + 1) 0) = _ from c1, ob3_some, if_neg (by decide), zbo_1, ob_s]
    refine Or.inl ⟨i', s + 2 * r', p + 2 + 2 * r', I', J', c2, rfl, rfl, c3, ⟨c5, c6, by omega, c7, by omega, c8⟩, Or.inl ⟨r', c4, rfl, rfl, rfl, ?_, c9, c10⟩, c11, (cJ.em).tr c12 (Nat.le_refl _)⟩
    rw [c12 _ _ (by omega) (by omega), em_o (by omega) (by omega)]
    exact h7
  · rw [show fX8_readHour_L12 (nI (p + 1)) zF 0 (em J (p + 1) 0) = _ from c1, ob3_some, if_pos rfl, zbo_0, ob_s]
    exact Or.inr ⟨I', J', rfl, rfl, c2, c3, c4, pJ.em.tr c5⟩
/-- a storm -/
theorem b_storm (h : BH c T L N i k s p 1 I J) : BO c T L N i k s p (nI 12) I J (ob2 (fX2_takeNumber (1 : Int32) (99 : Int32) I) fun x10 I11 => Option.bind (fX4_add x10 I11) fun I12 => Option.bind (fX7_readHitBuoys I12) fun I13 => some I13) (fX8_readStorm J) := by
  obtain ⟨h, ⟨h1, h2, h3, h4⟩, h5, h6, h7, h8, h9, h10⟩ := h
  have hN5 := h.N5
  have hiN := h.iN
  have hbb : (nI (c - 1)).toInt < 1000000 := by rw [nI_toInt (by omega)]; omega
  unfold fX8_readStorm
  rcases arg_S h h1 h2 h3 h5 h4 (by omega) (a := 1) (b := nI 99) (by omega) (by decide) with ⟨v, J3, ⟨b1, b2, b3, b4⟩, c1, c2, c3, hS, f3, -⟩ | ⟨I', I2, J', c1, c2, c3, c4, c5, c6, c7⟩
  · rw [show (nI 99).toInt = 99 by decide] at b3
    rw [show fX2_takeNumber 1 99 I = _ from c1, show fX8_takesCode 1 99 J = _ from c3, ob2_some, ob2_some, c2, ob_s, if_neg n10]
    unfold fX7_readHitBuoys fX8_takesBuoy
    have fI1 : cI k s I (ad (wr I 56 5 (nI (i + 1))) k s (nI v)) := (fI.wr5.c (s := s)).tr cI.ad (Nat.le_refl _)
    have fJ1 : cJ (p + 1) J (em J3 (p + 1) (nI v)) := (f3.c (p := p + 1)).tr cJ.em (Nat.le_refl _)
    have i1 : (ad (wr I 56 5 (nI (i + 1))) k s (nI v)) 61 0 = nI k := by rw [ad_o (by omega) (by omega), wr_n (by omega)]; exact h1
    have i2 : (ad (wr I 56 5 (nI (i + 1))) k s (nI v)) 2 0 = nI c := by rw [ad_o (by omega) (by omega), wr_n (by omega)]; exact h8
    have i3 : (ad (wr I 56 5 (nI (i + 1))) k s (nI v)) 63 k = nI (s + 1) := ad_k
    have i4 : (ad (wr I 56 5 (nI (i + 1))) k s (nI v)) 64 s = nI v := ad_s
    have j1 : (em J3 (p + 1) (nI v)) 316 p = nI 1 := by rw [em_o (by omega) (by omega), f3 _ _ (by omega)]; exact h7
    have j2 : (em J3 (p + 1) (nI v)) 316 (p + 1) = nI v := em_s
    have j3 : (em J3 (p + 1) (nI v)) 306 23 = nI (p + 2) := em_k
    have j4 : (em J3 (p + 1) (nI v)) 307 0 = nI c := by rw [em_o (by omega) (by omega), f3 _ _ (by omega)]; exact h9
    generalize ad (wr I 56 5 (nI (i + 1))) k s (nI v) = I1 at *
    generalize em J3 (p + 1) (nI v) = J1 at *
    rw [i2, ald_0 (by omega) (by omega), ob_s, j4, nI_sub1 (by omega) (by omega)]
    unfold fX8_takesCode
    rcases num_S hS (a := 0) (b := nI (c - 1)) (by omega) hbb with ⟨a, J4, d1, d2, d3, d4, e1, e2, hS2, d17, f4⟩ | ⟨I', J', c1, c2, c3, c4, c5⟩
    · rw [nI_toInt (by omega)] at d3
      have j5 : (em J4 (p + 2) (nI a)) 316 p = nI 1 := by rw [em_o (by omega) (by omega), f4 _ _ (by omega)]; exact j1
      have j6 : (em J4 (p + 2) (nI a)) 316 (p + 1) = nI v := by rw [em_o (by omega) (by omega), f4 _ _ (by omega)]; exact j2
      have j7 : (em J4 (p + 2) (nI a)) 307 0 = nI c := by rw [em_o (by omega) (by omega), f4 _ _ (by omega)]; exact j4
      have j8 : (em J4 (p + 2) (nI a)) 306 17 = nI a := by rw [em_o (by omega) (by omega)]; exact d17
      have j9 : (em J4 (p + 2) (nI a)) 316 (p + 2) = nI a := em_s
      have j10 : (em J4 (p + 2) (nI a)) 306 23 = nI (p + 3) := em_k
      have fJ2 : cJ (p + 1) J1 (em J4 (p + 2) (nI a)) := (f4.c (p := p + 1)).tr cJ.em (by omega)
      have hS3 : St T L N (i + 1 + 1) (wr I1 56 5 (nI (i + 1 + 1))) (em J4 (p + 2) (nI a)) := hS2.cg (fun _ _ _ _ => rfl) (fun k j q => em_o (by omega) (by omega))
      rw [show fX2_takeNumber 0 (nI (c - 1)) I1 = _ from e1, show fX8_takes 0 (nI (c - 1)) J1 = _ from e2, ob2_some, ob2_some, if_neg n10, d17, emi_e (p := p + 2) (by rw [f4 _ _ (by omega)]; exact j3) (by omega), ob_s, zbo_1, ob_s, ob2_some, zbo_1, ob_s, ob2_some, if_neg n10, ald_0 (by omega) (by omega), ob_s, j7, nI_sub1 (by omega) (by omega)]
      generalize em J4 (p + 2) (nI a) = J5 at *
      rcases look_S hS3 (a := 0) (b := nI (c - 1)) (by omega) hbb with ⟨l1, -, l3, l4, l5⟩ | ⟨I', J', l4, l5, l6, l7, l8⟩
      · rw [nI_toInt (by omega)] at l3
        rw [show fX2_lookNumber 0 (nI (c - 1)) _ = _ from l4, show fX8_stands 0 (nI (c - 1)) J5 = _ from l5, ob2_some, ob2_some, if_neg n10, wr_s, j8]
        generalize vv T L (i + 1 + 1) = b at *
        simp only [nI_leP (show a < 2 ^ 31 by omega) (show b < 2 ^ 31 by omega)]
        by_cases hab : a ≤ b
        · rw [if_pos hab, if_pos hab, ob_s, show fX2_takeKind 1 _ = _ from take_ok (k := 1) hS3 l1 (by omega), ob_s]
          have hN3 := hS3.lt l1 (by omega)
          have g1 : fX4_add (nI a) (wr (wr I1 56 5 (nI (i + 1 + 1))) 56 5 (nI (i + 1 + 1 + 1))) = some (ad (wr (wr I1 56 5 (nI (i + 1 + 1))) 56 5 (nI (i + 1 + 1 + 1))) k (s + 1) (nI a)) := add4 (by rw [wr_k (by omega), wr_k (by omega)]; exact i1) h2 (by rw [wr_k (by omega), wr_k (by omega)]; exact i3) (by omega)
          rw [g1, ob_s]
          have g2 : fX4_add (nI b) (ad (wr (wr I1 56 5 (nI (i + 1 + 1))) 56 5 (nI (i + 1 + 1 + 1))) k (s + 1) (nI a)) = some (ad (ad (wr (wr I1 56 5 (nI (i + 1 + 1))) 56 5 (nI (i + 1 + 1 + 1))) k (s + 1) (nI a)) k (s + 2) (nI b)) := add4 (by rw [ad_o (by omega) (by omega), wr_k (by omega), wr_k (by omega)]; exact i1) h2 ad_k (by omega)
          rw [g2, ob_s, ob_s, emi_e (J := wr J5 306 17 (nI b)) (p := p + 3) (by rw [wr_n (by omega)]; exact j10) (by omega), ob_s]
          have hS4 : St T L N (i + 1 + 1) (wr I1 56 5 (nI (i + 1 + 1))) (em (wr J5 306 17 (nI b)) (p + 3) (nI b)) := hS3.cg (fun _ _ _ _ => rfl) (fun k j q => by rw [em_o (by omega) (by omega), wr_n (by omega)])
          obtain ⟨J6, a1, a2, a3⟩ := adv_S hS4 hN3
          rw [a1, ob_s, ob_s]
          have fJ3 : cJ (p + 1) J5 J6 := ((fJ.wr17.c (p := p + 1)).tr cJ.em (by omega)).tr a3.c (Nat.le_refl _)
          have fI3 : cI k s I1 (ad (ad (wr (wr I1 56 5 (nI (i + 1 + 1))) 56 5 (nI (i + 1 + 1 + 1))) k (s + 1) (nI a)) k (s + 2) (nI b)) := (((fI.wr5.tr fI.wr5).c (s := s)).tr cI.ad (by omega)).tr cI.ad (by omega)
          refine Or.inl ⟨i + 1 + 1 + 1, s + 3, p + 4, _, J6, by omega, rfl, rfl, a2.cg (fun k' j q1 q2 => by rw [ad_o (by omega) (by omega), ad_o (by omega) (by omega)]) (fun _ _ _ => rfl), ⟨ad_k, by rw [a3 _ _ (by omega)]; exact em_k, by omega, by omega, by omega, by omega⟩, Or.inr (Or.inl ⟨v, a, b, ⟨b2, by omega, hab, by omega, rfl, rfl, rfl, ?_⟩, ⟨?_, ?_, ad_s⟩, ?_, ?_, ?_⟩), fI1.tr fI3 (Nat.le_refl _), (fJ1.tr fJ2 (Nat.le_refl _)).tr fJ3 (Nat.le_refl _)⟩
          · rw [fJ3 _ _ (by omega) (by omega)]; exact j5
          · rw [ad_o (by omega) (by omega), ad_o (by omega) (by omega), wr_k (by omega), wr_k (by omega)]; exact i4
          · rw [ad_o (by omega) (by omega)]; exact ad_s
          · rw [a3 _ _ (by omega), em_o (by omega) (by omega), wr_n (by omega)]; exact j6
          · rw [a3 _ _ (by omega), em_o (by omega) (by omega), wr_n (by omega)]; exact j9
          · rw [a3 _ _ (by omega)]; exact em_s
        · rw [if_neg hab, if_neg hab]
          have hS4 : St T L N (i + 1 + 1) (wr I1 56 5 (nI (i + 1 + 1))) (wr J5 306 17 (nI b)) := hS3.cg (fun _ _ _ _ => rfl) (fun k j q => by rw [wr_n (by omega)])
          obtain ⟨I', J', f1, f2, g3, g4, g5⟩ := fails_S hS4 (c := 3) (by omega) (by omega)
          rw [show fX2_fail 3 _ = _ from f1, show fX8_fails 3 _ = _ from f2, ob_s, ob_s, ob2_some, zbo_0, ob_s, take_E g3.1, ob_s]
          have hE : SE I' := ⟨k, s + 1, h2, by omega, by rw [g4 _ _ (by omega), wr_k (by omega)]; exact i1, by rw [g4 _ _ (by omega), wr_k (by omega)]; exact i3⟩
          obtain ⟨I4, m1, m2, m3, m4⟩ := add_E hE (nI a)
          obtain ⟨I5, n1, n2, n3, n4⟩ := add_E m2 (nI b)
          rw [m1, ob_s, n1, ob_s, ob_s]
          exact Or.inr ⟨I5, J', rfl, rfl, (g3.cg m4 (fun _ _ _ => rfl)).cg n4 (fun _ _ _ => rfl), n2, ((fI1.p.tr (fI.wr5.tr g4).p).tr m3).tr n3, (fJ1.p.tr fJ2.p).tr (fJ.wr17.tr g5).p⟩
      · rw [show fX2_lookNumber 0 (nI (c - 1)) _ = _ from l4, show fX8_stands 0 (nI (c - 1)) J5 = _ from l5, ob2_some, ob2_some, if_pos rfl, zbo_0, ob_s, fail_E l6.1, ob_s, ite_self, ob_s, take_E l6.1, ob_s]
        have hE : SE I' := ⟨k, s + 1, h2, by omega, by rw [l7 _ _ (by omega), wr_k (by omega)]; exact i1, by rw [l7 _ _ (by omega), wr_k (by omega)]; exact i3⟩
        obtain ⟨I4, m1, m2, m3, m4⟩ := add_E hE (nI a)
        obtain ⟨I5, n1, n2, n3, n4⟩ := add_E m2 (nI 0)
        rw [m1, ob_s, n1, ob_s, ob_s]
        exact Or.inr ⟨I5, J', rfl, rfl, (l6.cg m4 (fun _ _ _ => rfl)).cg n4 (fun _ _ _ => rfl), n2, ((fI1.p.tr (fI.wr5.tr l7).p).tr m3).tr n3, (fJ1.p.tr fJ2.p).tr l8.p⟩
    · rw [show fX2_takeNumber 0 (nI (c - 1)) I1 = _ from c1, show fX8_takes 0 (nI (c - 1)) J1 = _ from c2, ob2_some, ob2_some, if_pos rfl, zbo_0, ob_s, ob2_some, zbo_0, ob_s, ob2_some, if_pos rfl, ob_s, look_E c3.1, ob2_some, fail_E c3.1, ob_s, ite_self, ob_s, take_E c3.1, ob_s]
      have hE : SE I' := ⟨k, s + 1, h2, by omega, by rw [c4 _ _ (by omega)]; exact i1, by rw [c4 _ _ (by omega)]; exact i3⟩
      obtain ⟨I4, m1, m2, m3, m4⟩ := add_E hE (nI 0)
      obtain ⟨I5, n1, n2, n3, n4⟩ := add_E m2 0
      rw [m1, ob_s, n1, ob_s, ob_s]
      exact Or.inr ⟨I5, J', rfl, rfl, (c3.cg m4 (fun _ _ _ => rfl)).cg n4 (fun _ _ _ => rfl), n2, ((fI1.p.tr c4.p).tr m3).tr n3, fJ1.p.tr c5.p⟩
  · rw [show fX2_takeNumber 1 99 I = _ from c1, show fX8_takesCode 1 99 J = _ from c3, ob2_some, ob2_some, if_pos rfl, zbo_0, ob_s, show fX4_add (nI 1) I' = _ from c2, ob_s]
    obtain ⟨I3, d1, d2, d3, d4⟩ := hit_E c4.1 c5
    rw [d1, ob_s]
    exact Or.inr ⟨I3, J', rfl, rfl, c4.cg d4 (fun _ _ _ => rfl), d2, c6.tr d3, c7⟩
end BD
