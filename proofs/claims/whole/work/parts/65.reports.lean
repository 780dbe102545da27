/-! THE REPORTS OF AN HOUR -/
/-- how many of the first k bits are set -/
def cB (x : Int32) : Nat → Nat
  | 0 => 0
  | k + 1 => cB x k + if bt x k = true then 1 else 0
theorem cB_le {x : Int32} : ∀ k, cB x k ≤ k
  | 0 => Nat.le_refl _
  | k + 1 => by
    have := cB_le (x := x) k
    unfold cB
    split <;> omega
theorem cB_eq {x y : Int32} : ∀ k, (∀ i, i < k → bt y i = bt x i) → cB y k = cB x k
  | 0, _ => rfl
  | k + 1, h => by
    unfold cB
    rw [cB_eq k (fun i hi => h i (by omega)), h k (by omega)]
theorem cB_up {x y : Int32} {v : Nat} : ∀ k, v < k → (∀ i, i < k → i ≠ v → bt y i = bt x i) → bt y v = true → bt x v = false → cB y k = cB x k + 1
  | 0, h, _, _, _ => absurd h (Nat.not_lt_zero _)
  | k + 1, h, h1, h2, h3 => by
    unfold cB
    by_cases hk : v = k
    · subst hk
      rw [cB_eq v (fun i hi => h1 i (by omega) (by omega)), h2, h3, if_pos rfl, if_neg (by decide)]
    · rw [cB_up k (by omega) (fun i hi q => h1 i (by omega) q) h2 h3, h1 k (by omega) (by omega)]
      omega
theorem cB_set {x : Int32} {v : Nat} (hv : v < 10) (h : bt x v = false) : cB (x ||| ((1 : Int32) <<< ((nI v) &&& 31))) 10 = cB x 10 + 1 := by
  refine cB_up 10 hv (fun i hi q => ?_) ?_ h
  · rw [b_or, show (1 : Int32) <<< ((nI v) &&& 31) = bit1 v from rfl, b_bit1 (by omega) (by omega), decide_eq_false q, Bool.or_false]
  · rw [b_or, show (1 : Int32) <<< ((nI v) &&& 31) = bit1 v from rfl, b_bit1 (by omega) (by omega), decide_eq_true rfl, Bool.or_true]
theorem cB_0 : cB 0 10 = 0 := by decide
/-- what the body of a command leaves as it was -/
def cI (k s : Nat) (I I' : Mem) : Prop := ∀ k' j, ¬ (k' = 64 ∧ s ≤ j) → ¬ (k' = 63 ∧ j = k) → ¬ (k' = 56 ∧ 5 ≤ j ∧ j ≤ 7) → I' k' j = I k' j
def cJ (p : Nat) (J J' : Mem) : Prop := ∀ k j, ¬ (k = 316 ∧ p ≤ j) → ¬ (k = 306 ∧ (11 ≤ j ∧ j ≤ 17 ∨ j = 23)) → J' k j = J k j
theorem cI.rf {k s : Nat} {I : Mem} : cI k s I I := fun _ _ _ _ _ => rfl
theorem cJ.rf {p : Nat} {J : Mem} : cJ p J J := fun _ _ _ _ => rfl
theorem cI.tr {k s s2 : Nat} {I I1 I2 : Mem} (h1 : cI k s I I1) (h2 : cI k s2 I1 I2) (hs : s ≤ s2) : cI k s I I2 := fun k' j q1 q2 q3 => (h2 k' j (by omega) q2 q3).trans (h1 k' j q1 q2 q3)
theorem cJ.tr {p p2 : Nat} {J J1 J2 : Mem} (h1 : cJ p J J1) (h2 : cJ p2 J1 J2) (hs : p ≤ p2) : cJ p J J2 := fun k j q1 q2 => (h2 k j (by omega) q2).trans (h1 k j q1 q2)
theorem cI.p {k s : Nat} {I I' : Mem} (h : cI k s I I') : pI I I' := fun k' j q => h k' j (by omega) (by omega) (by omega)
theorem cJ.p {p : Nat} {J J' : Mem} (h : cJ p J J') : pJ J J' := fun k j q => h k j (by omega) (by omega)
theorem cI.ad {k s : Nat} {I : Mem} {v : Int32} : cI k s I (ad I k s v) := fun k' j q1 q2 _ => ad_o (by omega) q2
theorem cJ.em {p : Nat} {J : Mem} {v : Int32} : cJ p J (em J p v) := fun k j q1 q2 => em_o (by omega) (by omega)
theorem fI.c {k s : Nat} {I I' : Mem} (h : fI I I') : cI k s I I' := fun k' j _ _ q => h k' j q
theorem fJ.c {p : Nat} {J J' : Mem} (h : fJ J J') : cJ p J J' := fun k j _ q => h k j (by omega)
theorem RP.up {c s q r b : Nat} {I J : Mem} {w : Int32} (h : RP c I J s q r) (hb : b < c) (h1 : I 64 (s + 2 * r) = nI b) (h2 : J 316 (q + 2 * r) = nI b) (h3 : I 64 (s + 2 * r + 1) = w) (h4 : J 316 (q + 2 * r + 1) = w) (hw : bd (-9999) 9999 w) : RP c I J s q (r + 1) := by
  intro x hx
  by_cases hr : x = r
  · subst hr
    exact ⟨b, hb, h1, h2, h3.trans h4.symm, by rw [h4]; exact hw⟩
  · exact h x (by omega)
theorem rep_E {I : Mem} (h : EI I) {n : Nat} (hn : 0 < n) (x M : Int32) : fX7_readReports_L4 n x M I = some I := by
  obtain ⟨n, rfl⟩ := fuel hn
  rw [fX7_readReports_L4, more_E h, ob_s, if_pos rfl, ite_self]
section RE
variable {T : Nat → Nat} {L N : Nat}
theorem rep_L {c k s p : Nat} (hk : k ≤ 40) (hc : 2 ≤ c ∧ c ≤ 10) : ∀ (d n m i r : Nat) (M : Int32) (I J : Mem), N - i = d → d < n → d < m → cB M 10 = r → St T L N i I J → I 61 0 = nI k → I 2 0 = nI c → J 307 0 = nI c → I 63 k = nI (s + 2 * r) → J 306 23 = nI (p + 2 + 2 * r) → s + 2 * r ≤ i → p + 2 + 2 * r ≤ i + 1 → J 316 (p + 1) = nI r → RP c I J s (p + 2) r →
    ∃ I' J', fX7_readReports_L4 n (nI r) M I = some I' ∧ ((∃ i' r', fX8_readHour_L12 (nI (p + 1)) m M J = some (0, 0, J') ∧ i ≤ i' ∧ St T L N i' I' J' ∧ r' ≤ 10 ∧ I' 63 k = nI (s + 2 * r') ∧ J' 306 23 = nI (p + 2 + 2 * r') ∧ s + 2 * r' ≤ i' ∧ p + 2 + 2 * r' ≤ i' + 1 ∧ J' 316 (p + 1) = nI r' ∧ RP c I' J' s (p + 2) r' ∧ cI k s I I' ∧ cJ (p + 1) J J') ∨
      (fX8_readHour_L12 (nI (p + 1)) m M J = some (1, 0, J') ∧ Er I' J' ∧ SE I' ∧ pI I I' ∧ pJ J J')) := by
  intro d
  induction d using Nat.strongRecOn with
  | ind d ih =>
    intro n m i r M I J hd hn hm hM h h1 hc1 hc2 h3 h5 h4 h6 hq hP
    obtain ⟨n, rfl⟩ := fuel hn
    obtain ⟨m, rfl⟩ := fuel hm
    have hN5 := h.N5
    have hiN := h.iN
    have hv := @kd_v T L (sg T L i)
    have hr10 : r ≤ 10 := by rw [← hM]; exact cB_le 10
    rw [fX7_readReports_L4, fX8_readHour_L12, if_neg (show ¬ (10 : Int32) < nI r from show ¬ nI 10 < nI r by rw [nI_ltP (by omega) (by omega)]; omega), more_S h, ob_s, kind_S h]
    by_cases hkd : kd T L (sg T L i) = 1
    · have hN := h.lt hkd (by omega)
      have htk : J 306 13 = 2 := (h.t13 (k := 2) (by omega)).mpr (((kt_1 _).1).mp hkd)
      rw [decide_eq_true hN, if_neg (show ¬ b2i true = 0 by decide), ob_s, if_pos (show nI (kd T L (sg T L i)) = 1 by rw [hkd]; rfl), if_pos htk, hc1, ald_0 (by omega) (by omega), ob_s, hc2, nI_sub1 (by omega) (by omega)]
      have hbb : (nI (c - 1)).toInt < 1000000 := by rw [nI_toInt (by omega)]; omega
      rcases look_S h (a := 0) (b := nI (c - 1)) (by omega) hbb with ⟨-, -, l3, l4, l5⟩ | ⟨I', J', l4, l5, l6, l7, l8⟩
      · rw [nI_toInt (by omega)] at l3
        rw [show fX2_lookNumber 0 (nI (c - 1)) I = _ from l4, show fX8_stands 0 (nI (c - 1)) J = _ from l5, ob2_some, ob2_some, if_neg n10, wr_s, has7 (by omega), has8 (by omega), ob_s, ob_s]
        generalize hvv : vv T L i = v at *
        cases hb : bt M v
        · rw [if_pos (show b2i false = 0 by decide), if_pos (show b2i false = 0 by decide), ob_s, show fX2_takeKind 1 I = _ from take_ok (k := 1) h hkd (by omega), ob_s]
          have g1 : fX4_add (nI v) (wr I 56 5 (nI (i + 1))) = some (ad (wr I 56 5 (nI (i + 1))) k (s + 2 * r) (nI v)) := add4 (by rw [wr_k (by omega)]; exact h1) hk (by rw [wr_k (by omega)]; exact h3) (by omega)
          have g2 : fX8_emits (nI v) (wr J 306 17 (nI v)) = some (em (wr J 306 17 (nI v)) (p + 2 + 2 * r) (nI v)) := emi_e (by rw [wr_n (by omega)]; exact h5) (by omega)
          rw [g1, g2, ob_s, ob_s]
          have hS1 : St T L N i I (em (wr J 306 17 (nI v)) (p + 2 + 2 * r) (nI v)) := h.cg (fun _ _ _ _ => rfl) (fun k j q => by rw [em_o (by omega) (by omega), wr_n (by omega)])
          obtain ⟨J2, a1, a2, a3⟩ := adv_S hS1 hN
          rw [a1, ob_s]
          have hS2 : St T L N (i + 1) (ad (wr I 56 5 (nI (i + 1))) k (s + 2 * r) (nI v)) J2 := a2.cg (fun k j q1 q2 => ad_o (by omega) (by omega)) (fun _ _ _ => rfl)
          have fJ2 : cJ (p + 1) J J2 := ((fJ.wr17.c (p := p + 1)).tr cJ.em (by omega)).tr a3.c (Nat.le_refl _)
          have fI2 : cI k s I (ad (wr I 56 5 (nI (i + 1))) k (s + 2 * r) (nI v)) := (fI.wr5.c (s := s)).tr cI.ad (by omega)
          have j5 : J2 306 23 = nI (p + 2 + 2 * r + 1) := by rw [a3 _ _ (by omega)]; exact em_k
          have j6 : ∀ y, y < p + 2 + 2 * r → J2 316 y = J 316 y := fun y hy => by rw [a3 _ _ (by omega), em_o (by omega) (by omega), wr_n (by omega)]
          have j7 : J2 316 (p + 2 + 2 * r) = nI v := by rw [a3 _ _ (by omega)]; exact em_s
          have i5 : ∀ y, y < s + 2 * r → (ad (wr I 56 5 (nI (i + 1))) k (s + 2 * r) (nI v)) 64 y = I 64 y := fun y hy => by rw [ad_o (by omega) (by omega), wr_n (by omega)]
          have i6 : (ad (wr I 56 5 (nI (i + 1))) k (s + 2 * r) (nI v)) 64 (s + 2 * r) = nI v := ad_s
          have i7 : (ad (wr I 56 5 (nI (i + 1))) k (s + 2 * r) (nI v)) 63 k = nI (s + 2 * r + 1) := ad_k
          have i8 : (ad (wr I 56 5 (nI (i + 1))) k (s + 2 * r) (nI v)) 61 0 = nI k := by rw [ad_o (by omega) (by omega), wr_n (by omega)]; exact h1
          have hc1' : (ad (wr I 56 5 (nI (i + 1))) k (s + 2 * r) (nI v)) 2 0 = nI c := by rw [ad_o (by omega) (by omega), wr_n (by omega)]; exact hc1
          generalize ad (wr I 56 5 (nI (i + 1))) k (s + 2 * r) (nI v) = I2 at *
          rcases sgn_S hS2 (m := 9999) (by omega) with ⟨w, i2, J3, b1, b2, b3, b4, b5, hS3, b6, b7⟩ | ⟨w, I3, J3, b4, b5, b6, b7, b8⟩
          · rw [show fX2_takeSigned 9999 I2 = _ from b4, show fX8_takesSigned 9999 J2 = _ from b5, ob2_some, ob2_some, if_neg n10, b6]
            have g3 : fX4_add w (wr I2 56 5 (nI i2)) = some (ad (wr I2 56 5 (nI i2)) k (s + 2 * r + 1) w) := add4 (by rw [wr_k (by omega)]; exact i8) hk (by rw [wr_k (by omega)]; exact i7) (by omega)
            have g4 : fX8_emits w J3 = some (em J3 (p + 2 + 2 * r + 1) w) := emi_e (by rw [b7 _ _ (by omega)]; exact j5) (by omega)
            have g5 : (em J3 (p + 2 + 2 * r + 1) w) 316 (p + 1) = nI r := by rw [em_o (by omega) (by omega), b7 _ _ (by omega), j6 _ (by omega)]; exact hq
            rw [g3, g4, ob_s, ob_s, ald_n (by omega) (by omega), ob_s, ast_n (by omega) (by omega), ob_s, g5, nI_1]
            have fI3 : cI k s I2 (ad (wr I2 56 5 (nI i2)) k (s + 2 * r + 1) w) := (fI.wr5.c (s := s)).tr cI.ad (by omega)
            have fJ3 : cJ (p + 1) J2 (wr (em J3 (p + 2 + 2 * r + 1) w) 316 (p + 1) (nI (r + 1))) := fun k j q1 q2 => by
              rw [wr_n (by omega), em_o (by omega) (by omega), b7 _ _ (by omega)]
            obtain ⟨I', J', e1, e2⟩ := ih (N - i2) (by omega) n m i2 (r + 1) (M ||| ((1 : Int32) <<< ((nI v) &&& 31))) (ad (wr I2 56 5 (nI i2)) k (s + 2 * r + 1) w) (wr (em J3 (p + 2 + 2 * r + 1) w) 316 (p + 1) (nI (r + 1))) rfl (by omega) (by omega) (by rw [cB_set (by omega) hb, hM]) (hS3.cg (fun k j q1 q2 => ad_o (by omega) (by omega)) (fun k j q => by rw [wr_n (by omega), em_o (by omega) (by omega)])) (by rw [ad_o (by omega) (by omega), wr_n (by omega)]; exact i8) (by rw [ad_o (by omega) (by omega), wr_n (by omega)]; exact hc1') (by rw [wr_n (by omega), em_o (by omega) (by omega), b7 _ _ (by omega), fJ2 _ _ (by omega) (by omega)]; exact hc2) (by rw [ad_k, show s + 2 * (r + 1) = s + 2 * r + 1 + 1 by omega]) (by rw [wr_k (by omega), em_k, show p + 2 + 2 * (r + 1) = p + 2 + 2 * r + 1 + 1 by omega]) (by omega) (by omega) wr_s (RP.up (w := w) (b := v) (hP.cg (fun x q1 q2 => by rw [ad_o (by omega) (by omega), wr_n (by omega), i5 _ (by omega)]) (fun y q1 q2 => by rw [wr_n (by omega), em_o (by omega) (by omega), b7 _ _ (by omega), j6 _ (by omega)])) (by omega) (by rw [ad_o (by omega) (by omega), wr_n (by omega)]; exact i6) (by rw [wr_n (by omega), em_o (by omega) (by omega), b7 _ _ (by omega)]; exact j7) ad_s (by rw [wr_j (by omega)]; exact em_s) b3)
            refine ⟨I', J', e1, ?_⟩
            rcases e2 with ⟨i', r', c1, c2, c3, c4, c5, c6, c7, c8, c9, c10, c11, c12⟩ | ⟨c1, c2, c3, c4, c5⟩
            · exact Or.inl ⟨i', r', c1, by omega, c3, c4, c5, c6, c7, c8, c9, c10, (fI2.tr fI3 (Nat.le_refl _)).tr c11 (Nat.le_refl _), (fJ2.tr fJ3 (Nat.le_refl _)).tr c12 (Nat.le_refl _)⟩
            · exact Or.inr ⟨c1, c2, c3, (fI2.p.tr fI3.p).tr c4, (fJ2.p.tr fJ3.p).tr c5⟩
          · rw [show fX2_takeSigned 9999 I2 = _ from b4, show fX8_takesSigned 9999 J2 = _ from b5, ob2_some, ob2_some, if_pos rfl]
            have hE : SE I3 := ⟨k, s + 2 * r + 1, hk, by omega, by rw [b7 _ _ (by omega)]; exact i8, by rw [b7 _ _ (by omega)]; exact i7⟩
            obtain ⟨I4, d1, d2, d3, d4⟩ := add_E hE w
            rw [d1, ob_s, rep_E (b6.1.cg (d4 5) (d4 6)) (by omega)]
            exact ⟨I4, J3, rfl, Or.inr ⟨rfl, b6.cg d4 (fun _ _ _ => rfl), d2, (fI2.p.tr b7.p).tr d3, fJ2.p.tr b8.p⟩⟩
        · rw [if_neg (show ¬ b2i true = 0 by decide), if_neg (show ¬ b2i true = 0 by decide)]
          have hS1 : St T L N i I (wr J 306 17 (nI v)) := h.cg (fun _ _ _ _ => rfl) (fun k j q => wr_n (by omega))
          obtain ⟨I', J', f1, f2, f3, f4, f5⟩ := fails_S hS1 (c := 3) (by omega) (by omega)
          rw [show fX2_fail 3 I = _ from f1, show fX8_fails 3 _ = _ from f2, ob_s, ob_s, ob2_some, take_E f3.1, ob_s]
          have hE : SE I' := ⟨k, s + 2 * r, hk, by omega, by rw [f4 _ _ (by omega)]; exact h1, by rw [f4 _ _ (by omega)]; exact h3⟩
          obtain ⟨I4, d1, d2, d3, d4⟩ := add_E hE (nI v)
          have hE4 : Er I4 J' := f3.cg d4 (fun _ _ _ => rfl)
          rw [d1, ob_s, sgn_E hE4.1, ob2_some]
          obtain ⟨I5, g1, g2, g3, g4⟩ := add_E d2 0
          rw [g1, ob_s, rep_E (hE4.1.cg (g4 5) (g4 6)) (by omega)]
          exact ⟨I5, J', rfl, Or.inr ⟨rfl, hE4.cg g4 (fun _ _ _ => rfl), g2, (f4.p.tr d3).tr g3, fJ.wr17.p.tr f5.p⟩⟩
      · rw [show fX2_lookNumber 0 (nI (c - 1)) I = _ from l4, show fX8_stands 0 (nI (c - 1)) J = _ from l5, ob2_some, ob2_some, if_pos rfl, has7 (by omega), ob_s, fail_E l6.1, ob_s, ite_self, ob_s, take_E l6.1, ob_s]
        have hE : SE I' := ⟨k, s + 2 * r, hk, by omega, by rw [l7 _ _ (by omega)]; exact h1, by rw [l7 _ _ (by omega)]; exact h3⟩
        obtain ⟨I4, d1, d2, d3, d4⟩ := add_E hE (nI 0)
        have hE4 : Er I4 J' := l6.cg d4 (fun _ _ _ => rfl)
        rw [d1, ob_s, sgn_E hE4.1, ob2_some]
        obtain ⟨I5, g1, g2, g3, g4⟩ := add_E d2 0
        rw [g1, ob_s, rep_E (hE4.1.cg (g4 5) (g4 6)) (by omega)]
        exact ⟨I5, J', rfl, Or.inr ⟨rfl, hE4.cg g4 (fun _ _ _ => rfl), g2, (l7.p.tr d3).tr g3, l8.p⟩⟩
    · have htk : ¬ J 306 13 = 2 := fun q => hkd (((kt_1 _).1).mpr ((h.t13 (k := 2) (by omega)).mp q))
      rw [if_neg htk, ob_s, if_neg (show ¬ nI (kd T L (sg T L i)) = 1 from fun q => hkd ((nI_eqP (b := 1) (by omega) (by omega)).mp q)), ite_self]
      exact ⟨I, J, rfl, Or.inl ⟨i, r, rfl, Nat.le_refl _, h, hr10, h3, h5, h4, h6, hq, hP, cI.rf, cJ.rf⟩⟩
end RE
