/-! THE COMMANDS OF A SCRIPT -/
def pI (I I' : Mem) : Prop := ∀ k j, ¬ (61 ≤ k ∧ k ≤ 64 ∨ k = 56 ∧ 5 ≤ j ∧ j ≤ 7) → I' k j = I k j
def pJ (J J' : Mem) : Prop := ∀ k j, ¬ (k = 316 ∨ k = 306 ∧ (11 ≤ j ∧ j ≤ 17 ∨ j = 23 ∨ j = 24)) → J' k j = J k j
theorem pI.rf {I : Mem} : pI I I := fun _ _ _ => rfl
theorem pJ.rf {J : Mem} : pJ J J := fun _ _ _ => rfl
theorem pI.tr {I I1 I2 : Mem} (h1 : pI I I1) (h2 : pI I1 I2) : pI I I2 := fun k j q => (h2 k j q).trans (h1 k j q)
theorem pJ.tr {J J1 J2 : Mem} (h1 : pJ J J1) (h2 : pJ J1 J2) : pJ J J2 := fun k j q => (h2 k j q).trans (h1 k j q)
theorem fI.p {I I' : Mem} (h : fI I I') : pI I I' := fun k j q => h k j (by omega)
theorem fJ.p {J J' : Mem} (h : fJ J J') : pJ J J' := fun k j q => h k j (by omega)
theorem pI.s {I I' : Mem} (h : pI I I') : sgI I I' := fun k j q => h k j (by omega)
theorem pJ.s {J J' : Mem} (h : pJ J J') : sgJ J J' := fun k j q => h k j (by omega)
/-- reports: r of them -/
def RP (c : Nat) (I J : Mem) (s q r : Nat) : Prop := ∀ x, x < r → ∃ b, b < c ∧ I 64 (s + 2 * x) = nI b ∧ J 316 (q + 2 * x) = nI b ∧ I 64 (s + 2 * x + 1) = J 316 (q + 2 * x + 1) ∧ bd (-9999) 9999 (J 316 (q + 2 * x + 1))
/-- what a command says: c buoys; its numbers of the class from s to s1, its codes from p to p1; its kind k -/
def CB (c : Nat) (I J : Mem) (k : Int32) (s s1 p p1 : Nat) : Prop :=
  (∃ r, r ≤ 10 ∧ s1 = s + 2 * r ∧ p1 = p + 2 + 2 * r ∧ k = nI 11 ∧ J 316 p = nI 0 ∧ J 316 (p + 1) = nI r ∧ RP c I J s (p + 2) r) ∨
  (∃ f a b, (1 ≤ f ∧ f ≤ 99 ∧ a ≤ b ∧ b < c ∧ s1 = s + 3 ∧ p1 = p + 4 ∧ k = nI 12 ∧ J 316 p = nI 1) ∧ (I 64 s = nI f ∧ I 64 (s + 1) = nI a ∧ I 64 (s + 2) = nI b) ∧ J 316 (p + 1) = nI f ∧ J 316 (p + 2) = nI a ∧ J 316 (p + 3) = nI b) ∨
  (∃ K y v, (s1 = s + 1 ∧ p1 = p + 2 ∧ k = nI K ∧ J 316 p = nI y ∧ I 64 s = nI v ∧ J 316 (p + 1) = nI v) ∧ (K = 13 ∧ y = 2 ∧ v + 1 < c ∨ K = 14 ∧ y = 3 ∧ 1 ≤ v ∧ v ≤ 99 ∨ K = 15 ∧ y = 4 ∧ v < c ∨ K = 10 ∧ y = 5 ∧ 1 ≤ v ∧ v ≤ 9999))
def CM (c : Nat) (I J : Mem) (j s s1 p p1 : Nat) : Prop :=
  (I 63 j = nI s ∧ I 63 (j + 1) = nI s1 ∧ s ≤ s1 ∧ s1 ≤ 500 ∧ p ≤ p1 ∧ p1 ≤ 501) ∧ CB c I J (I 62 j) s s1 p p1
def SC (c : Nat) (I J : Mem) : Nat → Nat → Nat → Prop
  | 0, s, p => s = 0 ∧ p = 0
  | m + 1, s, p => ∃ s0 p0, SC c I J m s0 p0 ∧ CM c I J m s0 s p0 p
theorem RP.cg {c s q r : Nat} {I J I' J' : Mem} (hI : ∀ x, s ≤ x → x < s + 2 * r → I' 64 x = I 64 x) (hJ : ∀ y, q ≤ y → y < q + 2 * r → J' 316 y = J 316 y) (h : RP c I J s q r) : RP c I' J' s q r := by
  intro x hx
  rw [hI (s + 2 * x) (by omega) (by omega), hI (s + 2 * x + 1) (by omega) (by omega), hJ (q + 2 * x) (by omega) (by omega), hJ (q + 2 * x + 1) (by omega) (by omega)]
  exact h x hx
theorem CB.cg {c s s1 p p1 : Nat} {k : Int32} {I J I' J' : Mem} (hI : ∀ x, s ≤ x → x < s1 → I' 64 x = I 64 x) (hJ : ∀ y, p ≤ y → y < p1 → J' 316 y = J 316 y) (h : CB c I J k s s1 p p1) : CB c I' J' k s s1 p p1 := by
  rcases h with ⟨r, h1, h2, h3, h4, h5, h6, h7⟩ | ⟨f, a, b, ⟨h1, h2, h3, h4, h5, h6, h7, h8⟩, ⟨h9, h10, h11⟩, h12, h13, h14⟩ | ⟨K, y, v, ⟨h1, h2, h3, h4, h5, h6⟩, h7⟩
  · refine Or.inl ⟨r, h1, h2, h3, h4, ?_, ?_, h7.cg (fun x a b => hI x (by omega) (by omega)) (fun x a b => hJ x (by omega) (by omega))⟩
    · rw [hJ _ (by omega) (by omega)]; exact h5
    · rw [hJ _ (by omega) (by omega)]; exact h6
  · refine Or.inr (Or.inl ⟨f, a, b, ⟨h1, h2, h3, h4, h5, h6, h7, ?_⟩, ⟨?_, ?_, ?_⟩, ?_, ?_, ?_⟩)
    · rw [hJ _ (by omega) (by omega)]; exact h8
    · rw [hI _ (by omega) (by omega)]; exact h9
    · rw [hI _ (by omega) (by omega)]; exact h10
    · rw [hI _ (by omega) (by omega)]; exact h11
    · rw [hJ _ (by omega) (by omega)]; exact h12
    · rw [hJ _ (by omega) (by omega)]; exact h13
    · rw [hJ _ (by omega) (by omega)]; exact h14
  · refine Or.inr (Or.inr ⟨K, y, v, ⟨h1, h2, h3, ?_, ?_, ?_⟩, h7⟩)
    · rw [hJ _ (by omega) (by omega)]; exact h4
    · rw [hI _ (by omega) (by omega)]; exact h5
    · rw [hJ _ (by omega) (by omega)]; exact h6
theorem CM.cg {c j s s1 p p1 : Nat} {I J I' J' : Mem} (h2 : I' 62 j = I 62 j) (h3 : ∀ x, j ≤ x → x ≤ j + 1 → I' 63 x = I 63 x) (hI : ∀ x, s ≤ x → x < s1 → I' 64 x = I 64 x) (hJ : ∀ y, p ≤ y → y < p1 → J' 316 y = J 316 y) (h : CM c I J j s s1 p p1) : CM c I' J' j s s1 p p1 := by
  obtain ⟨a1, a2⟩ := h
  unfold CM
  rw [h2, h3 j (by omega) (by omega), h3 (j + 1) (by omega) (by omega)]
  exact ⟨a1, a2.cg hI hJ⟩
theorem SC.cg {c : Nat} {I J I' J' : Mem} : ∀ {m s p : Nat}, (∀ x, x < m → I' 62 x = I 62 x) → (∀ x, x ≤ m → I' 63 x = I 63 x) → (∀ x, x < s → I' 64 x = I 64 x) → (∀ y, y < p → J' 316 y = J 316 y) → SC c I J m s p → SC c I' J' m s p
  | 0, _, _, _, _, _, _, h => h
  | m + 1, s, p, h2, h3, hI, hJ, ⟨s0, p0, h, hc⟩ => by
    have := hc.1
    exact ⟨s0, p0, SC.cg (fun x a => h2 x (by omega)) (fun x a => h3 x (by omega)) (fun x a => hI x (by omega)) (fun x a => hJ x (by omega)) h, hc.cg (h2 m (by omega)) (fun x _ a => h3 x (by omega)) (fun x _ a => hI x (by omega)) (fun x _ a => hJ x (by omega))⟩
/-- the class behind an error can go on adding -/
def SE (I : Mem) : Prop := ∃ m s, m ≤ 40 ∧ s ≤ 500 ∧ I 61 0 = nI m ∧ I 63 m = nI s
theorem SE.cg {I I' : Mem} (h1 : ∀ k j, k = 61 ∨ k = 63 → I' k j = I k j) (h : SE I) : SE I' := by
  obtain ⟨m, s, a1, a2, a3, a4⟩ := h
  exact ⟨m, s, a1, a2, by rw [h1 _ _ (by omega)]; exact a3, by rw [h1 _ _ (by omega)]; exact a4⟩
def ad (I : Mem) (k s : Nat) (v : Int32) : Mem := wr (wr I 64 s v) 63 k (nI (s + 1))
def em (J : Mem) (p : Nat) (v : Int32) : Mem := wr (wr J 316 p v) 306 23 (nI (p + 1))
theorem add4 {I : Mem} {k s : Nat} {v : Int32} (h1 : I 61 0 = nI k) (h2 : k ≤ 40) (h3 : I 63 k = nI s) (h4 : s < 500) : fX4_add v I = some (ad I k s v) := by
  unfold fX4_add ad
  rw [h1, ald_n (by omega) (by omega), ob_s, h3, if_neg (show ¬ (Int32.ofNat 500) ≤ nI s from show ¬ nI 500 ≤ nI s by rw [nI_leP (by omega) (by omega)]; omega), ast_n h4 (by omega), ob_s, wr_k (by omega), h1, ast_n (by omega) (by omega), ob_s, ob_s, nI_1]
theorem emi_e {J : Mem} {p : Nat} {v : Int32} (h1 : J 306 23 = nI p) (h2 : p < 600) : fX8_emits v J = some (em J p v) := by
  unfold fX8_emits em
  rw [h1, ast_n h2 (by omega), ob_s, wr_k (by omega), h1, nI_1]
theorem ad_o {I : Mem} {k s : Nat} {v : Int32} {k' j : Nat} (h : ¬ (k' = 64 ∧ j = s)) (h2 : ¬ (k' = 63 ∧ j = k)) : ad I k s v k' j = I k' j := by
  unfold ad
  rw [wr_n h2, wr_n h]
theorem ad_s {I : Mem} {k s : Nat} {v : Int32} : ad I k s v 64 s = v := by
  unfold ad
  rw [wr_k (by omega), wr_s]
theorem ad_k {I : Mem} {k s : Nat} {v : Int32} : ad I k s v 63 k = nI (s + 1) := by
  unfold ad
  rw [wr_s]
theorem em_o {J : Mem} {p : Nat} {v : Int32} {k j : Nat} (h : ¬ (k = 316 ∧ j = p)) (h2 : ¬ (k = 306 ∧ j = 23)) : em J p v k j = J k j := by
  unfold em
  rw [wr_n h2, wr_n h]
theorem em_s {J : Mem} {p : Nat} {v : Int32} : em J p v 316 p = v := by
  unfold em
  rw [wr_k (by omega), wr_s]
theorem em_k {J : Mem} {p : Nat} {v : Int32} : em J p v 306 23 = nI (p + 1) := by
  unfold em
  rw [wr_s]
theorem pI.ad {I : Mem} {k s : Nat} {v : Int32} : pI I (ad I k s v) := fun k' j q => ad_o (by omega) (by omega)
theorem pJ.em {J : Mem} {p : Nat} {v : Int32} : pJ J (em J p v) := fun k j q => em_o (by omega) (by omega)
theorem add_E {I : Mem} (h : SE I) (v : Int32) : ∃ I', fX4_add v I = some I' ∧ SE I' ∧ pI I I' ∧ ∀ j, I' 56 j = I 56 j := by
  obtain ⟨m, s, a1, a2, a3, a4⟩ := h
  by_cases hs : s < 500
  · refine ⟨_, add4 a3 a1 a4 hs, ⟨m, s + 1, a1, hs, ?_, ad_k⟩, pI.ad, fun j => ad_o (by omega) (by omega)⟩
    rw [ad_o (by omega) (by omega)]; exact a3
  · refine ⟨I, ?_, ⟨m, s, a1, a2, a3, a4⟩, pI.rf, fun _ => rfl⟩
    unfold fX4_add
    rw [a3, ald_n (by omega) (by omega), ob_s, a4, if_pos (show (Int32.ofNat 500) ≤ nI s from show nI 500 ≤ nI s by rw [nI_leP (by omega) (by omega)]; omega), ob_s]
section SR
variable {T : Nat → Nat} {L N i : Nat} {I J : Mem}
/-- one number is taken and kept -/
theorem arg_S {k s p a : Nat} {b : Int32} (h : St T L N i I J) (h1 : I 61 0 = nI k) (h2 : k ≤ 40) (h3 : I 63 k = nI s) (h4 : s ≤ i) (h5 : J 306 23 = nI p) (h6 : p ≤ i + 1) (ha : a ≤ 1) (hb : b.toInt < 1000000) :
    (∃ v J3, (i < N ∧ a ≤ v ∧ (v : Int) ≤ b.toInt ∧ v < 2 ^ 24) ∧ fX2_takeNumber (nI a) b I = some (nI v, wr I 56 5 (nI (i + 1))) ∧ fX4_add (nI v) (wr I 56 5 (nI (i + 1))) = some (ad (wr I 56 5 (nI (i + 1))) k s (nI v)) ∧ fX8_takesCode (nI a) b J = some (1, em J3 p (nI v)) ∧ St T L N (i + 1) (ad (wr I 56 5 (nI (i + 1))) k s (nI v)) (em J3 p (nI v)) ∧ fJ J J3 ∧ J3 306 17 = nI v) ∨
    ∃ I' I2 J', fX2_takeNumber (nI a) b I = some (nI a, I') ∧ fX4_add (nI a) I' = some I2 ∧ fX8_takesCode (nI a) b J = some (0, J') ∧ Er I2 J' ∧ SE I2 ∧ pI I I2 ∧ pJ J J' := by
  have hN5 := h.N5
  unfold fX8_takesCode
  rcases num_S h ha hb with ⟨v, J3, b1, b2, b3, b4, c1, c2, hS, c17, f3⟩ | ⟨I', J', c1, c2, c3, c4, c5⟩
  · left
    refine ⟨v, J3, ⟨b1, b2, b3, b4⟩, c1, add4 ?_ h2 ?_ (by omega), ?_, hS.cg (fun k' j q1 q2 => ad_o (by omega) (by omega)) (fun k' j q => em_o (by omega) (by omega)), f3, c17⟩
    · rw [wr_k (by omega)]; exact h1
    · rw [wr_k (by omega)]; exact h3
    · rw [c2, ob2_some, if_neg n10, c17, emi_e (by rw [f3 _ _ (by omega)]; exact h5) (by omega), ob_s, zbo_1, ob_s]
  · right
    have hE : SE I' := ⟨k, s, h2, by have := h.iN; omega, by rw [c4 _ _ (by omega)]; exact h1, by rw [c4 _ _ (by omega)]; exact h3⟩
    obtain ⟨I2, d1, d2, d3, d4⟩ := add_E hE (nI a)
    refine ⟨I', I2, J', c1, d1, ?_, c3.cg d4 (fun _ _ _ => rfl), d2, c4.p.tr d3, c5.p⟩
    rw [c2, ob2_some, if_pos rfl, zbo_0, ob_s]
end SR
