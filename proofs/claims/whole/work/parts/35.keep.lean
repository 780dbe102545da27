/-! COPIES OF A STATE; WHAT COMES AHEAD OF AN ACT -/
def mv (I : Mem) (k k1 j : Nat) : Mem := wr I k j (I k1 j)
theorem mv_at {I : Mem} {k k1 j : Nat} : mv I k k1 j k j = I k1 j := wr_s
theorem mv_ne {I : Mem} {k k1 j k' j' : Nat} (h : ¬ (k' = k ∧ j' = j)) : mv I k k1 j k' j' = I k' j' := by
  unfold mv wr
  rw [if_neg h]
theorem cpy_at {I : Mem} {k0 sp k1 dp n j : Nat} (h : dp ≤ j ∧ j < dp + n) : cpy I k0 sp k1 dp n k1 j = I k0 (sp + (j - dp)) := by
  unfold cpy
  rw [if_pos ⟨rfl, h⟩]
theorem cpy_ne {I : Mem} {k0 sp k1 dp n k j : Nat} (h : ¬ (k = k1 ∧ dp ≤ j ∧ j < dp + n)) : cpy I k0 sp k1 dp n k j = I k j := by
  unfold cpy
  rw [if_neg h]
def cpF (I : Mem) (b b1 : Nat) : Mem := cpy (cpy (cpy (cpy (cpy (cpy (cpy (cpy (cpy (mv (mv I (b + 1) (b1 + 1) 0) (b + 1) (b1 + 1) 1) (b1 + 2) 0 (b + 2) 0 10) (b1 + 3) 0 (b + 3) 0 10) (b1 + 4) 0 (b + 4) 0 10) (b1 + 5) 0 (b + 5) 0 10) (b1 + 6) 0 (b + 6) 0 10) (b1 + 7) 0 (b + 7) 0 10) (b1 + 8) 0 (b + 8) 0 10) (b1 + 9) 0 (b + 9) 0 10) (b1 + 10) 0 (b + 10) 0 10
def cpR (I : Mem) (b b1 : Nat) : Mem := cpy (cpy (mv I (b + 11) (b1 + 11) 0) (b1 + 12) 0 (b + 12) 0 10) (b1 + 13) 0 (b + 13) 0 10
def cpH (I : Mem) (b b1 : Nat) : Mem := cpy (cpy (cpy (cpy (cpy (cpy (cpy (cpy (cpy I (b1 + 15) 0 (b + 15) 0 24) (b1 + 16) 0 (b + 16) 0 24) (b1 + 17) 0 (b + 17) 0 24) (b1 + 18) 0 (b + 18) 0 24) (b1 + 19) 0 (b + 19) 0 24) (b1 + 20) 0 (b + 20) 0 24) (b1 + 21) 0 (b + 21) 0 24) (b1 + 22) 0 (b + 22) 0 24) (b1 + 23) 0 (b + 23) 0 240
def cpT (I : Mem) (b b1 : Nat) : Mem := mv (mv (mv (mv (mv (mv (mv (mv (mv I b b1 3) b b1 4) b b1 5) b b1 6) b b1 7) b b1 8) b b1 9) b b1 10) b b1 11
theorem cp_def {I : Mem} {b b1 : Nat} : fX5_copyFrom b b1 I = some (cpT (cpH (cpR (cpF I b b1) b b1) b b1) b b1) := rfl
theorem cp_e {I : Mem} {b b1 : Nat} (hb : b + 24 ≤ b1 ∨ b1 + 24 ≤ b) : ∃ I', fX5_copyFrom b b1 I = some I' ∧ (∀ k j, rng k j → I' (b + k) j = I (b1 + k) j) ∧ (∀ k j, ¬ (b ≤ k ∧ k < b + 24) → I' k j = I k j) := by
  refine ⟨_, cp_def, fun k j hr => ?_, fun k j hk => ?_⟩
  · unfold rng at hr
    have hc : (k = 0 ∧ (j = 3 ∨ j = 4 ∨ j = 5 ∨ j = 6 ∨ j = 7 ∨ j = 8 ∨ j = 9 ∨ j = 10 ∨ j = 11)) ∨ (k = 1 ∧ (j = 0 ∨ j = 1)) ∨ (k = 11 ∧ j = 0) ∨ ((k = 2 ∨ k = 3 ∨ k = 4 ∨ k = 5 ∨ k = 6 ∨ k = 7 ∨ k = 8 ∨ k = 9 ∨ k = 10) ∧ j < 10) ∨ ((k = 12 ∨ k = 13) ∧ j < 10) ∨ ((k = 15 ∨ k = 16 ∨ k = 17 ∨ k = 18 ∨ k = 19 ∨ k = 20 ∨ k = 21 ∨ k = 22) ∧ j < 24) ∨ (k = 23 ∧ j < 240) := by omega
    rcases hc with ⟨rfl, h⟩ | ⟨rfl, h⟩ | ⟨rfl, h⟩ | ⟨h, hj⟩ | ⟨h, hj⟩ | ⟨h, hj⟩ | ⟨rfl, hj⟩
    · rcases h with rfl | rfl | rfl | rfl | rfl | rfl | rfl | rfl | rfl <;> simp (disch := omega) only [cpT, cpH, cpR, cpF, mv_at, mv_ne, cpy_at, cpy_ne, Nat.add_zero, Nat.zero_add, Nat.sub_zero]
    · rcases h with rfl | rfl <;> simp (disch := omega) only [cpT, cpH, cpR, cpF, mv_at, mv_ne, cpy_at, cpy_ne, Nat.add_zero, Nat.zero_add, Nat.sub_zero]
    · subst h
      simp (disch := omega) only [cpT, cpH, cpR, cpF, mv_at, mv_ne, cpy_at, cpy_ne, Nat.add_zero, Nat.zero_add, Nat.sub_zero]
    · rcases h with rfl | rfl | rfl | rfl | rfl | rfl | rfl | rfl | rfl <;> simp (disch := omega) only [cpT, cpH, cpR, cpF, mv_at, mv_ne, cpy_at, cpy_ne, Nat.add_zero, Nat.zero_add, Nat.sub_zero]
    · rcases h with rfl | rfl <;> simp (disch := omega) only [cpT, cpH, cpR, cpF, mv_at, mv_ne, cpy_at, cpy_ne, Nat.add_zero, Nat.zero_add, Nat.sub_zero]
    · rcases h with rfl | rfl | rfl | rfl | rfl | rfl | rfl | rfl <;> simp (disch := omega) only [cpT, cpH, cpR, cpF, mv_at, mv_ne, cpy_at, cpy_ne, Nat.add_zero, Nat.zero_add, Nat.sub_zero]
    · simp (disch := omega) only [cpT, cpH, cpR, cpF, mv_at, mv_ne, cpy_at, cpy_ne, Nat.add_zero, Nat.zero_add, Nat.sub_zero]
  · simp (disch := omega) only [cpT, cpH, cpR, cpF, mv_ne, cpy_ne]
theorem cps_L {k0 k2 o1 o2 N0 N2 : Nat} (l0 : zb_ln k0 = N0) (l2 : zb_ln k2 = N2) (h0 : o1 + 574 ≤ N0) (h2 : o2 + 574 ≤ N2) (hN : N0 < 2 ^ 20 ∧ N2 < 2 ^ 20) (hd : k0 ≠ k2 ∨ o2 + 574 ≤ o1 ∨ o1 + 574 ≤ o2) :
    ∀ (d j n : Nat) (J : Mem), j + d = 574 → d < n → fX8_copies_L3 k0 k2 (nI o1) (nI o2) n (nI j) J = some (cpy J k0 (o1 + j) k2 (o2 + j) d) := by
  intro d
  induction d with
  | zero =>
    intro j n J hj hn
    obtain ⟨n, rfl⟩ := fuel hn
    rw [fX8_copies_L3, L574, if_pos (by rw [nI_leP (by omega) (by omega)]; omega)]
    congr 1
    funext k i
    rw [cpy_ne (by omega)]
  | succ d ih =>
    intro j n J hj hn
    obtain ⟨n, rfl⟩ := fuel hn
    rw [fX8_copies_L3, L574, if_neg (by rw [nI_leP (by omega) (by omega)]; omega), l0, l2, nI_add, nI_add, ald_n (by omega) (by omega), ob_s, ast_n (by omega) (by omega), ob_s, nI_1, ih (j + 1) n _ (by omega) (by omega)]
    congr 1
    funext k i
    unfold cpy wr
    by_cases hk : k = k2 ∧ o2 + (j + 1) ≤ i ∧ i < o2 + (j + 1) + d
    · rw [if_pos hk, if_neg (by omega), if_pos (by omega)]
      congr 1
      omega
    · rw [if_neg hk]
      by_cases hk2 : k = k2 ∧ i = o2 + j
      · rw [if_pos hk2, if_pos (by omega)]
        congr 1
        omega
      · rw [if_neg hk2, if_neg (by omega)]
theorem cps_e {k0 k2 o1 o2 N0 N2 : Nat} {J : Mem} (l0 : zb_ln k0 = N0) (l2 : zb_ln k2 = N2) (h0 : o1 + 574 ≤ N0) (h2 : o2 + 574 ≤ N2) (hN : N0 < 2 ^ 20 ∧ N2 < 2 ^ 20) (hd : k0 ≠ k2 ∨ o2 + 574 ≤ o1 ∨ o1 + 574 ≤ o2) : fX8_copies k0 k2 (nI o1) (nI o2) J = some (cpy J k0 o1 k2 o2 574) := by
  unfold fX8_copies
  rw [show fX8_copies_L3 k0 k2 (nI o1) (nI o2) zF 0 J = _ from cps_L l0 l2 h0 h2 hN hd 574 0 zF J rfl (zF_g (by omega))]
  rfl
theorem zl307 : zb_ln 307 = 574 := by decide
theorem zl309 : zb_ln 309 = 574 := by decide
theorem zl310 : zb_ln 310 = 4592 := by decide
theorem zl311 : zb_ln 311 = 1148 := by decide
/-- rows of the reference's undo shifted down -/
theorem shift_L : ∀ (d k n : Nat) (J : Mem), k + d = 7 → d < n → J 306 8 = nI 7 → ∃ J', fX8_keeps_L21 n (nI k) J = some J' ∧ (∀ q i, q ≠ 310 → J' q i = J q i) ∧ (∀ r x, k ≤ r → r < 7 → x < 574 → J' 310 (574 * r + x) = J 310 (574 * (r + 1) + x)) ∧ (∀ r x, r < k → x < 574 → J' 310 (574 * r + x) = J 310 (574 * r + x)) := by
  intro d
  induction d with
  | zero =>
    intro k n J hk hn h8
    obtain ⟨n, rfl⟩ := fuel hn
    exact ⟨J, by rw [fX8_keeps_L21, h8, if_pos (by rw [nI_leP (by omega) (by omega)]; omega)], fun _ _ _ => rfl, fun r x h1 h2 _ => by omega, fun _ _ _ _ => rfl⟩
  | succ d ih =>
    intro k n J hk hn h8
    obtain ⟨n, rfl⟩ := fuel hn
    rw [fX8_keeps_L21, h8, if_neg (by rw [nI_leP (by omega) (by omega)]; omega), nI_1, L574, nI_mul_n, nI_mul_n, cps_e (o1 := 574 * (k + 1)) (o2 := 574 * k) zl310 zl310 (by omega) (by omega) ⟨by omega, by omega⟩ (by omega), ob_s]
    obtain ⟨J', a1, a2, a3, a4⟩ := ih (k + 1) n (cpy J 310 (574 * (k + 1)) 310 (574 * k) 574) (by omega) (by omega) (by rw [cpy_ne (by omega)]; exact h8)
    refine ⟨J', a1, fun q i hq => (a2 q i hq).trans (cpy_ne (by omega)), fun r x h1 h2 hx => ?_, fun r x h1 hx => ?_⟩
    · by_cases hrk : r = k
      · subst hrk
        rw [a4 r x (by omega) hx, cpy_at (by omega)]
        congr 1
        omega
      · rw [a3 r x (by omega) h2 hx, cpy_ne (by omega)]
    · rw [a4 r x (by omega) hx, cpy_ne (by omega)]
theorem keeps_e {u : Nat} {J : Mem} (hu : u ≤ 8) (h8 : J 306 8 = nI u) : ∃ J', fX8_keeps J = some J' ∧ (∀ q i, ¬ (q = 310 ∨ q = 313 ∨ (q = 306 ∧ i = 8)) → J' q i = J q i) ∧ J' 306 8 = nI (min (u + 1) 8) ∧ J' 313 0 = J 313 0 + 1 ∧ (∀ i, i ≠ 0 → J' 313 i = J 313 i) ∧ (∀ x, x < 574 → J' 310 (574 * (min (u + 1) 8 - 1) + x) = J 307 x) ∧ (∀ i x, i + 1 < min (u + 1) 8 → x < 574 → J' 310 (574 * i + x) = J 310 (574 * (i + (u + 1 - min (u + 1) 8)) + x)) := by
  have main : ∃ J1 v, (Option.bind (if J 306 8 = (8 : Int32) then Option.bind (fX8_keeps_L21 zF (0 : Int32) (wr J 306 8 ((J 306 8) - (1 : Int32)))) fun J2 => some J2 else some J) fun J3 => some J3) = some J1 ∧ v = min u 7 ∧ J1 306 8 = nI v ∧ (∀ q i, ¬ (q = 310 ∨ (q = 306 ∧ i = 8)) → J1 q i = J q i) ∧ (∀ i x, i < v → x < 574 → J1 310 (574 * i + x) = J 310 (574 * (i + (u - v)) + x)) := by
    by_cases h : u = 8
    · subst h
      rw [h8, if_pos (show nI 8 = (8 : Int32) from rfl), nI_sub1 (by omega) (by omega)]
      obtain ⟨J', a1, a2, a3, a4⟩ := shift_L 7 0 zF (wr J 306 8 (nI 7)) rfl (zF_g (by omega)) wr_s
      refine ⟨J', 7, ?_, rfl, (a2 _ _ (by decide)).trans wr_s, fun q i hq => (a2 q i (by omega)).trans ?_, fun i x hi hx => (a3 i x (by omega) hi hx).trans (wr_k (by decide))⟩
      · rw [show fX8_keeps_L21 zF 0 (wr J 306 8 (nI (8 - 1))) = _ from a1]
        rfl
      · simp only [wr]
        rw [if_neg (by omega)]
    · rw [h8, if_neg (by rw [L8, nI_eqP (by omega) (by omega)]; omega)]
      exact ⟨J, u, rfl, by omega, h8, fun _ _ _ => rfl, fun i x hi hx => by rw [Nat.sub_self, Nat.add_zero]⟩
  obtain ⟨J1, v, m1, m2, m3, m4, m5⟩ := main
  have m1' : (if J 306 8 = (8 : Int32) then Option.bind (fX8_keeps_L21 zF (0 : Int32) (wr J 306 8 ((J 306 8) - (1 : Int32)))) fun J2 => some J2 else some J) = some J1 := by
    generalize (if J 306 8 = (8 : Int32) then Option.bind (fX8_keeps_L21 zF (0 : Int32) (wr J 306 8 ((J 306 8) - (1 : Int32)))) fun J2 => some J2 else some J) = o at m1 ⊢
    cases o with
    | none => cases m1
    | some y => exact m1
  unfold fX8_keeps
  rw [m1', ob_s, m3, L574, nI_mul_n, show fX8_copies 307 310 0 (nI (574 * v)) J1 = _ from cps_e (o1 := 0) (o2 := 574 * v) zl307 zl310 (by omega) (by omega) ⟨by omega, by omega⟩ (by omega), ob_s]
  rw [show cpy J1 307 0 310 (574 * v) 574 306 8 = nI v from (cpy_ne (by omega)).trans m3, nI_1, ald_0 (by omega) (by omega), ob_s, ast_0 (by omega) (by omega), ob_s]
  have w0 : wr (cpy J1 307 0 310 (574 * v) 574) 306 8 (nI (v + 1)) 313 0 = J 313 0 := by rw [wr_k (by decide), cpy_ne (by omega), m4 _ _ (by omega)]
  have em : min (u + 1) 8 = v + 1 := by omega
  rw [em, w0]
  refine ⟨_, rfl, fun q i hq => ?_, ?_, wr_s, fun i hi => ?_, fun x hx => ?_, fun i x hi hx => ?_⟩
  · simp only [wr]
    rw [if_neg (by omega), if_neg (by omega), cpy_ne (by omega), m4 q i (by omega)]
  · rw [wr_k (by decide), wr_s]
  · rw [wr_j hi, wr_k (by decide), cpy_ne (by omega), m4 _ _ (by omega)]
  · rw [wr_k (by decide), wr_k (by decide), show 574 * (v + 1 - 1) + x = 574 * v + x by omega, cpy_at (by omega), m4 _ _ (by omega)]
    congr 1
    omega
  · rw [wr_k (by decide), wr_k (by decide), cpy_ne (by omega), m5 i x (by omega) hx]
    congr 3
    omega
/-- what comes ahead of an act, on both sides -/
theorem begin_e {E : Nat} {I J : Mem} (hR : RelB E I J) : ∃ I' J', fX7_beginAct I = some I' ∧ fX8_keeps J = some J' ∧ RelB E I' J' ∧ (∀ k j, ¬ (66 ≤ k ∧ k < 258) → ¬ (k = 51 ∧ j = 0) → ¬ (k = 0 ∧ (j = 3 ∨ j = 4)) → I' k j = I k j) ∧ (∀ q i, ¬ (q = 310 ∨ q = 313 ∨ (q = 306 ∧ i = 8)) → J' q i = J q i) := by
  obtain ⟨hS, ⟨u, p, hu, hp8, I3, I4, J8, hU⟩, hV, hA, hT, hE, hO⟩ := hR
  obtain ⟨J', k1, k2, k3, k4, k5, k6, k7⟩ := keeps_e hu J8
  obtain ⟨I1, c1, c2, c3⟩ := cp_e (I := I) (b := 66 + 24 * p) (b1 := 1) (by omega)
  have I13 : I1 0 3 = nI u := (c3 0 3 (by omega)).trans I3
  have I14 : I1 0 4 = nI p := (c3 0 4 (by omega)).trans I4
  have hmin : imin (nI u + 1) 8 = nI (min (u + 1) 8) := by
    unfold imin
    rw [nI_1, L8]
    by_cases h : 8 < u + 1
    · rw [if_pos (by rw [nI_ltP (by omega) (by omega)]; exact h), show min (u + 1) 8 = 8 by omega]
    · rw [if_neg (by rw [nI_ltP (by omega) (by omega)]; exact h), show min (u + 1) 8 = u + 1 by omega]
  have hb : fX7_beginAct I = some (wr (wr (wr I1 0 4 (nI ((p + 1) % 8))) 0 3 (nI (min (u + 1) 8))) 51 0 (I 51 0 + 1)) := by
    unfold fX7_beginAct
    rw [I4, rld_n hp8 (by omega), ob_s, c1, ob_s, I14, nI_1, L8, nI_rem (by omega) (by omega) (by omega), ob_s, wr_j (by decide), I13, ← L8, hmin, ald_0 (by omega) (by omega), ob_s, ast_0 (by omega) (by omega), wr_k (by decide), wr_k (by decide), c3 51 0 (by omega)]
    rfl
  have fr : ∀ k j, ¬ (66 + 24 * p ≤ k ∧ k < 66 + 24 * p + 24) → ¬ (k = 51 ∧ j = 0) → ¬ (k = 0 ∧ (j = 3 ∨ j = 4)) → (wr (wr (wr I1 0 4 (nI ((p + 1) % 8))) 0 3 (nI (min (u + 1) 8))) 51 0 (I 51 0 + 1)) k j = I k j := fun k j h1 h2 h3 => by
    simp only [wr]
    rw [if_neg (by omega), if_neg (by omega), if_neg (by omega), c3 k j h1]
  have bl : ∀ k j, 66 + 24 * p ≤ k → k < 66 + 24 * p + 24 → (wr (wr (wr I1 0 4 (nI ((p + 1) % 8))) 0 3 (nI (min (u + 1) 8))) 51 0 (I 51 0 + 1)) k j = I1 k j := fun k j h1 h2 => by
    simp only [wr]
    rw [if_neg (by omega), if_neg (by omega), if_neg (by omega)]
  refine ⟨_, J', hb, k1, ⟨?_, ⟨min (u + 1) 8, (p + 1) % 8, by omega, by omega, ?_, ?_, k3, fun i hi => ?_⟩, ?_, ?_, ?_, ?_, ?_⟩, fun k j h1 h2 h3 => fr k j (by omega) h2 h3, k2⟩
  · exact hS.cong (Nat.le_refl _) (fun k j h1 h2 => fr k j (by omega) (by omega) (by omega)) (fun j => k2 _ _ (by omega))
  · rw [wr_k (by decide), wr_s]
  · rw [wr_k (by decide), wr_j (by decide), wr_s]
  · by_cases hl : i + 1 = min (u + 1) 8
    · obtain ⟨c, e, he, hw⟩ := hS
      have hidx : ((p + 1) % 8 + 8 - min (u + 1) 8 + i) % 8 = p := by omega
      rw [hidx]
      refine ⟨c, e, he, hw.cong (fun k j hr => ?_) (fun x hx => ?_)⟩
      · have hk : k < 24 := by unfold rng at hr; omega
        rw [bl _ j (by omega) (by omega)]
        exact c2 k j hr
      · show J' 310 (574 * i + x) = J 307 x
        rw [← k6 x hx]
        congr 2
        omega
    · obtain ⟨c, e, he, hw⟩ := hU (i + (u + 1 - min (u + 1) 8)) (by omega)
      have hidx : ((p + 1) % 8 + 8 - min (u + 1) 8 + i) % 8 = (p + 8 - u + (i + (u + 1 - min (u + 1) 8))) % 8 := by omega
      rw [hidx]
      refine ⟨c, e, he, hw.cong (fun k j hr => ?_) (fun x hx => ?_)⟩
      · have hk : k < 24 := by unfold rng at hr; omega
        exact fr _ j (by omega) (by omega) (by omega)
      · exact k7 i x (by omega) hx
  · exact RelV.cong (Nat.le_refl _) (fun k j h1 h2 => fr k j (by omega) (by omega) (by omega)) (fr _ _ (by omega) (by omega) (by omega)) (fun j => k2 _ _ (by omega)) (fun j => k2 _ _ (by omega)) hV
  · intro i hi
    by_cases h0 : i = 0
    · subst h0
      rw [wr_s, k4, hA 0 (by omega)]
    · rw [fr 51 i (by omega) (by omega) (by omega), k5 i h0]
      exact hA i hi
  · exact RelT.cong (fun j => fr _ _ (by omega) (by omega) (by omega)) (fr _ _ (by omega) (by omega) (by omega)) (fun j => k2 _ _ (by omega)) (k2 _ _ (by omega)) hT
  · exact RelE.cong (fr _ _ (by omega) (by omega) (by omega)) (fr _ _ (by omega) (by omega) (by omega)) (k2 _ _ (by omega)) (k2 _ _ (by omega)) hE
  · exact RelO.cong (fun j => fr _ _ (by omega) (by omega) (by omega)) (fr _ _ (by omega) (by omega) (by omega)) (fun j => k2 _ _ (by omega)) (k2 _ _ (by omega)) hO
