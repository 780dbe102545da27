/-! THE RELATION OF CLASS AND REFERENCE -/
abbrev Row : Type := Nat → Int32
def rowJ (J : Mem) (k o : Nat) : Row := fun i => J k (o + i)
def bd (lo hi : Int) (x : Int32) : Prop := lo ≤ x.toInt ∧ x.toInt ≤ hi
/-- an hour that is kept when e have ended; its place in the reference's row -/
def kept (e h : Nat) : Prop := h < e ∧ e ≤ h + 24
def hp (e h : Nat) : Nat := 142 + 18 * (h - (e - 24))
def hasB (F : Row) (j : Nat) : Bool := decide (F (92 + j) = 1)
def broB (F : Row) (j : Nat) : Bool := decide (F (132 + j) = 1)
def WFn (c e : Nat) (F : Row) : Prop := 2 ≤ c ∧ c ≤ 10 ∧ F 0 = nI c ∧ F 5 = nI e ∧ F 6 = nI (min e 24) ∧ bd 0 999 (F 1) ∧ bd 1 9 (F 2) ∧ bd 1 9 (F 3)
def WFb (c : Nat) (F : Row) : Prop := ∀ j, j < c → bd 1 9 (F (22 + j)) ∧ bd 0 99 (F (32 + j)) ∧ bd (-99) 99 (F (42 + j)) ∧ bd 0 2 (F (52 + j)) ∧ (F (92 + j) = 0 ∨ F (92 + j) = 1) ∧ bd (-9999) 9999 (F (102 + j))
def WFr (c : Nat) (F : Row) : Prop := ∀ j, j + 1 < c → F (132 + j) = 0 ∨ F (132 + j) = 1
def WFq (c : Nat) (F : Row) (q : Nat) : Prop :=
  (∀ i, c ≤ i → bt (F q) i = false) ∧ (∀ i, c ≤ i → bt (F (q + 3)) i = false) ∧ (F (q + 2) = 0 ∨ F (q + 2) = 1) ∧ bd (-10098) 10098 (F (q + 5)) ∧ (∀ j, j < c → bd (-10098) 10098 (F (q + 8 + j))) ∧
  (∀ i, i < c → (bt (F q) i = true → bt (F (q + 3)) i = true ∧ bt (F (q + 6)) i = false ∧ bt (F (q + 4)) i = false) ∧ (bt (F (q + 4)) i = true → bt (F (q + 3)) i = true ∧ bt (F (q + 6)) i = false))
def WFh (c e : Nat) (F : Row) : Prop := ∀ h, kept e h → WFq c F (hp e h)
def EQn (c : Nat) (I : Mem) (b : Nat) (F : Row) : Prop :=
  I (b + 1) 0 = nI c ∧ I b 3 = F 1 ∧ I b 4 = F 2 ∧ I b 5 = F 3 ∧ I b 6 = F 4 ∧ I b 7 = F 5 ∧ I b 8 = F 7 ∧ I b 9 = F 8 ∧ I b 10 = F 9 ∧ I b 11 = F 10 ∧ I (b + 11) 0 = bsl (broB F) 0 (c - 1) 0 ∧ I (b + 1) 1 = bsl (hasB F) 0 c 0
def EQb (c : Nat) (I : Mem) (b : Nat) (F : Row) : Prop := ∀ j, j < c →
  I (b + 2) j = F (12 + j) ∧ I (b + 3) j = F (22 + j) ∧ I (b + 4) j = F (32 + j) ∧ I (b + 5) j = F (42 + j) ∧ I (b + 6) j = F (52 + j) ∧ I (b + 7) j = F (62 + j) ∧ I (b + 8) j = F (72 + j) ∧ I (b + 9) j = F (82 + j) ∧ I (b + 10) j = F (102 + j)
def EQr (c : Nat) (I : Mem) (b : Nat) (F : Row) : Prop := ∀ j, j + 1 < c → I (b + 12) j = F (112 + j) ∧ I (b + 13) j = F (122 + j)
def EQq (c : Nat) (I : Mem) (b r : Nat) (F : Row) (q : Nat) : Prop :=
  I (b + 15) r = F q ∧ I (b + 16) r = F (q + 1) ∧ I (b + 17) r = F (q + 2) ∧ I (b + 18) r = F (q + 5) ∧ I (b + 19) r = F (q + 3) ∧ I (b + 22) r = F (q + 4) ∧ (∀ j, j < c → I (b + 23) (r * 10 + j) = F (q + 8 + j)) ∧
  (∀ j, j < c → bt (F (q + 3)) j = true → bt (I (b + 20) r) j = bt (F (q + 6)) j ∧ bt (I (b + 21) r) j = (!bt (F (q + 6)) j && !bt (F q) j && !bt (F (q + 4)) j))
def EQh (c e : Nat) (I : Mem) (b : Nat) (F : Row) : Prop := ∀ h, kept e h → EQq c I b (h % 24) F (hp e h)
/-- a State of the class and a row of the reference tell the same -/
def EW (c e : Nat) (I : Mem) (b : Nat) (F : Row) : Prop := (WFn c e F ∧ WFb c F ∧ WFr c F ∧ WFh c e F) ∧ (EQn c I b F ∧ EQb c I b F ∧ EQr c I b F ∧ EQh c e I b F)
/-- the places of a State that tell something -/
def rng (k j : Nat) : Prop := (k = 0 ∧ 3 ≤ j ∧ j < 12) ∨ (k = 1 ∧ j < 2) ∨ (2 ≤ k ∧ k ≤ 10 ∧ j < 10) ∨ (k = 11 ∧ j < 1) ∨ (12 ≤ k ∧ k ≤ 13 ∧ j < 10) ∨ (15 ≤ k ∧ k ≤ 22 ∧ j < 24) ∨ (k = 23 ∧ j < 240)
theorem kept_hp {e h : Nat} (k : kept e h) : hp e h + 18 ≤ 574 ∧ 142 ≤ hp e h := by
  unfold kept at k
  unfold hp
  omega
theorem bsl_cong {p q : Nat → Bool} {d : Nat} {a : Int32} (h : ∀ i, i < d → p i = q i) : bsl p 0 d a = bsl q 0 d a := by
  unfold bsl
  apply itr_congr
  intro i a _ hi
  rw [h i (by omega)]
theorem WFq.cong {c q : Nat} {F F' : Row} (hc : c ≤ 10) (hF : ∀ i, q ≤ i → i < q + 18 → F' i = F i) (h : WFq c F q) : WFq c F' q := by
  obtain ⟨h1, h2, h3, h4, h5, h6⟩ := h
  refine ⟨?_, ?_, ?_, ?_, ?_, ?_⟩
  · rw [hF q (by omega) (by omega)]; exact h1
  · rw [hF (q + 3) (by omega) (by omega)]; exact h2
  · rw [hF (q + 2) (by omega) (by omega)]; exact h3
  · rw [hF (q + 5) (by omega) (by omega)]; exact h4
  · intro j hj; rw [hF (q + 8 + j) (by omega) (by omega)]; exact h5 j hj
  · rw [hF q (by omega) (by omega), hF (q + 3) (by omega) (by omega), hF (q + 4) (by omega) (by omega), hF (q + 6) (by omega) (by omega)]; exact h6
theorem EQq.cong {c q r b b' : Nat} {I I' : Mem} {F F' : Row} (hc : c ≤ 10) (hr : r < 24) (hI : ∀ k j, rng k j → I' (b' + k) j = I (b + k) j) (hF : ∀ i, q ≤ i → i < q + 18 → F' i = F i) (h : EQq c I b r F q) : EQq c I' b' r F' q := by
  obtain ⟨h1, h2, h3, h4, h5, h6, h7, h8⟩ := h
  refine ⟨?_, ?_, ?_, ?_, ?_, ?_, ?_, ?_⟩
  · rw [hF q (by omega) (by omega), hI 15 r (by unfold rng; omega)]; exact h1
  · rw [hF (q + 1) (by omega) (by omega), hI 16 r (by unfold rng; omega)]; exact h2
  · rw [hF (q + 2) (by omega) (by omega), hI 17 r (by unfold rng; omega)]; exact h3
  · rw [hF (q + 5) (by omega) (by omega), hI 18 r (by unfold rng; omega)]; exact h4
  · rw [hF (q + 3) (by omega) (by omega), hI 19 r (by unfold rng; omega)]; exact h5
  · rw [hF (q + 4) (by omega) (by omega), hI 22 r (by unfold rng; omega)]; exact h6
  · intro j hj; rw [hF (q + 8 + j) (by omega) (by omega), hI 23 (r * 10 + j) (by unfold rng; omega)]; exact h7 j hj
  · rw [hF q (by omega) (by omega), hF (q + 3) (by omega) (by omega), hF (q + 4) (by omega) (by omega), hF (q + 6) (by omega) (by omega), hI 20 r (by unfold rng; omega), hI 21 r (by unfold rng; omega)]; exact h8
theorem EW.cong {c e b b' : Nat} {I I' : Mem} {F F' : Row} (hI : ∀ k j, rng k j → I' (b' + k) j = I (b + k) j) (hF : ∀ i, i < 574 → F' i = F i) (h : EW c e I b F) : EW c e I' b' F' := by
  obtain ⟨⟨hn, hb, hr, hh⟩, qn, qb, qr, qh⟩ := h
  have hc : c ≤ 10 := hn.2.1
  refine ⟨⟨?_, ?_, ?_, ?_⟩, ?_, ?_, ?_, ?_⟩
  · unfold WFn
    rw [hF 0 (by omega), hF 1 (by omega), hF 2 (by omega), hF 3 (by omega), hF 5 (by omega), hF 6 (by omega)]
    exact hn
  · intro j hj
    rw [hF (22 + j) (by omega), hF (32 + j) (by omega), hF (42 + j) (by omega), hF (52 + j) (by omega), hF (92 + j) (by omega), hF (102 + j) (by omega)]
    exact hb j hj
  · intro j hj
    rw [hF (132 + j) (by omega)]
    exact hr j hj
  · intro h k
    have := kept_hp k
    exact (hh h k).cong hc (fun i h1 h2 => hF i (by omega))
  · unfold EQn
    have e0 := hI 0
    simp only [Nat.add_zero] at e0
    rw [hI 1 0 (by unfold rng; omega), e0 3 (by unfold rng; omega), e0 4 (by unfold rng; omega), e0 5 (by unfold rng; omega), e0 6 (by unfold rng; omega), e0 7 (by unfold rng; omega), e0 8 (by unfold rng; omega), e0 9 (by unfold rng; omega), e0 10 (by unfold rng; omega), e0 11 (by unfold rng; omega), hI 11 0 (by unfold rng; omega), hI 1 1 (by unfold rng; omega)]
    rw [hF 1 (by omega), hF 2 (by omega), hF 3 (by omega), hF 4 (by omega), hF 5 (by omega), hF 7 (by omega), hF 8 (by omega), hF 9 (by omega), hF 10 (by omega)]
    rw [bsl_cong (p := broB F') (q := broB F) (fun i hi => by unfold broB; rw [hF (132 + i) (by omega)]), bsl_cong (p := hasB F') (q := hasB F) (fun i hi => by unfold hasB; rw [hF (92 + i) (by omega)])]
    exact qn
  · intro j hj
    rw [hI 2 j (by unfold rng; omega), hI 3 j (by unfold rng; omega), hI 4 j (by unfold rng; omega), hI 5 j (by unfold rng; omega), hI 6 j (by unfold rng; omega), hI 7 j (by unfold rng; omega), hI 8 j (by unfold rng; omega), hI 9 j (by unfold rng; omega), hI 10 j (by unfold rng; omega)]
    rw [hF (12 + j) (by omega), hF (22 + j) (by omega), hF (32 + j) (by omega), hF (42 + j) (by omega), hF (52 + j) (by omega), hF (62 + j) (by omega), hF (72 + j) (by omega), hF (82 + j) (by omega), hF (102 + j) (by omega)]
    exact qb j hj
  · intro j hj
    rw [hI 12 j (by unfold rng; omega), hI 13 j (by unfold rng; omega), hF (112 + j) (by omega), hF (122 + j) (by omega)]
    exact qr j hj
  · intro h k
    have := kept_hp k
    exact (qh h k).cong hc (Nat.mod_lt _ (by omega)) hI (fun i h1 h2 => hF i (by omega))
def RelS (n : Nat) (I J : Mem) : Prop := ∃ c e, e ≤ n ∧ EW c e I 1 (J 307)
def RelU (n : Nat) (I J : Mem) : Prop := ∃ u p, u ≤ 8 ∧ p < 8 ∧ I 0 3 = nI u ∧ I 0 4 = nI p ∧ J 306 8 = nI u ∧ ∀ i, i < u → ∃ c e, e ≤ n ∧ EW c e I (66 + 24 * ((p + 8 - u + i) % 8)) (rowJ J 310 (574 * i))
def RelV (n : Nat) (I J : Mem) : Prop := ∀ i, i < 2 → bt (I 0 6) i = decide (J 312 i = 1) ∧ (J 312 i = 0 ∨ J 312 i = 1) ∧ (J 312 i = 1 → ∃ c e, e ≤ n ∧ EW c e I (258 + 24 * i) (rowJ J 311 (574 * i)))
def RelA (I J : Mem) : Prop := ∀ i, i < 5 → I 51 i = J 313 i
def RelT (I J : Mem) : Prop := ∃ L, L ≤ 500 ∧ I 56 1 = nI L ∧ J 306 10 = nI L ∧ ∀ i, i < L → ∃ t : Nat, 1 ≤ t ∧ t ≤ 255 ∧ I 57 i = nI t ∧ J 314 i = (nI t).toInt8.toInt32
def RelE (I J : Mem) : Prop := I 0 12 = J 306 15 ∧ I 0 13 = J 306 16
def RelO (I J : Mem) : Prop := ∃ w, w ≤ 400 ∧ I 0 15 = nI w ∧ J 306 26 = nI w ∧ ∀ i, i < w → I 65 i = J 317 i
/-- at most E hours have ended -/
def RelB (E : Nat) (I J : Mem) : Prop := RelS E I J ∧ RelU E I J ∧ RelV E I J ∧ RelA I J ∧ RelT I J ∧ RelE I J ∧ RelO I J
abbrev Rel (n : Nat) (I J : Mem) : Prop := RelB (7 * n) I J
/-- what a call may write that tells nothing -/
def qI (k j : Nat) : Prop := (25 ≤ k ∧ k ≤ 48) ∨ (52 ≤ k ∧ k ≤ 55) ∨ (58 ≤ k ∧ k ≤ 64) ∨ (k = 56 ∧ j ≠ 1) ∨ (k = 0 ∧ (j = 0 ∨ j = 1 ∨ j = 2 ∨ j = 5 ∨ 7 ≤ j ∧ j ≤ 11 ∨ j = 14)) ∨ 306 ≤ k
def qJ (k j : Nat) : Prop := (k = 306 ∧ j ≠ 8 ∧ j ≠ 10 ∧ j ≠ 15 ∧ j ≠ 16 ∧ j ≠ 26) ∨ k = 308 ∨ k = 309 ∨ k = 315 ∨ k = 316
theorem RelS.cong {n m : Nat} {I I' J J' : Mem} (hm : n ≤ m) (hI : ∀ k j, 1 ≤ k → k < 25 → I' k j = I k j) (hJ : ∀ j, J' 307 j = J 307 j) (h : RelS n I J) : RelS m I' J' := by
  obtain ⟨c, e, he, hw⟩ := h
  refine ⟨c, e, by omega, hw.cong (fun k j hr => hI _ _ (by omega) ?_) (fun i _ => hJ _)⟩
  unfold rng at hr
  omega
theorem RelU.cong {n m : Nat} {I I' J J' : Mem} (hm : n ≤ m) (hI : ∀ k j, 66 ≤ k → k < 258 → I' k j = I k j) (h3 : I' 0 3 = I 0 3) (h4 : I' 0 4 = I 0 4) (hJ : ∀ j, J' 310 j = J 310 j) (h8 : J' 306 8 = J 306 8) (h : RelU n I J) : RelU m I' J' := by
  obtain ⟨u, p, h1, h2, a1, a2, a3, hw⟩ := h
  refine ⟨u, p, h1, h2, h3.trans a1, h4.trans a2, h8.trans a3, fun i hi => ?_⟩
  obtain ⟨c, e, he, hw⟩ := hw i hi
  refine ⟨c, e, by omega, hw.cong (fun k j hr => hI _ _ (by omega) ?_) (fun i _ => hJ _)⟩
  unfold rng at hr
  omega
theorem RelV.cong {n m : Nat} {I I' J J' : Mem} (hm : n ≤ m) (hI : ∀ k j, 258 ≤ k → k < 306 → I' k j = I k j) (h6 : I' 0 6 = I 0 6) (hJ : ∀ j, J' 311 j = J 311 j) (h12 : ∀ j, J' 312 j = J 312 j) (h : RelV n I J) : RelV m I' J' := by
  intro i hi
  obtain ⟨a1, a2, a3⟩ := h i hi
  rw [h6, h12]
  refine ⟨a1, a2, fun h => ?_⟩
  obtain ⟨c, e, he, hw⟩ := a3 h
  refine ⟨c, e, by omega, hw.cong (fun k j hr => hI _ _ (by omega) ?_) (fun i _ => hJ _)⟩
  unfold rng at hr
  omega
theorem RelT.cong {I I' J J' : Mem} (hI : ∀ j, I' 57 j = I 57 j) (h1 : I' 56 1 = I 56 1) (hJ : ∀ j, J' 314 j = J 314 j) (h2 : J' 306 10 = J 306 10) (h : RelT I J) : RelT I' J' := by
  obtain ⟨L, h3, h4, h5, h6⟩ := h
  refine ⟨L, h3, h1.trans h4, h2.trans h5, fun i hi => ?_⟩
  obtain ⟨t, a1, a2, a3, a4⟩ := h6 i hi
  exact ⟨t, a1, a2, (hI i).trans a3, (hJ i).trans a4⟩
theorem RelO.cong {I I' J J' : Mem} (hI : ∀ j, I' 65 j = I 65 j) (h1 : I' 0 15 = I 0 15) (hJ : ∀ j, J' 317 j = J 317 j) (h2 : J' 306 26 = J 306 26) (h : RelO I J) : RelO I' J' := by
  obtain ⟨w, h3, h4, h5, h6⟩ := h
  exact ⟨w, h3, h1.trans h4, h2.trans h5, fun i hi => by rw [hI, hJ]; exact h6 i hi⟩
theorem RelA.cong {I I' J J' : Mem} (hI : ∀ j, I' 51 j = I 51 j) (hJ : ∀ j, J' 313 j = J 313 j) (h : RelA I J) : RelA I' J' := fun i hi => by rw [hI, hJ]; exact h i hi
theorem RelE.cong {I I' J J' : Mem} (h1 : I' 0 12 = I 0 12) (h2 : I' 0 13 = I 0 13) (h3 : J' 306 15 = J 306 15) (h4 : J' 306 16 = J 306 16) (h : RelE I J) : RelE I' J' := by
  unfold RelE
  rw [h1, h2, h3, h4]
  exact h
/-- nothing that tells something has changed -/
theorem RelB.cong {n m : Nat} {I I' J J' : Mem} (hm : n ≤ m) (hI : ∀ k j, ¬ qI k j → I' k j = I k j) (hJ : ∀ k j, ¬ qJ k j → J' k j = J k j) (h : RelB n I J) : RelB m I' J' := by
  obtain ⟨hS, hU, hV, hA, hT, hE, hO⟩ := h
  refine ⟨hS.cong hm (fun k j h1 h2 => hI _ _ (by unfold qI; omega)) (fun j => hJ _ _ (by unfold qJ; omega)), hU.cong hm (fun k j h1 h2 => hI _ _ (by unfold qI; omega)) (hI _ _ (by unfold qI; omega)) (hI _ _ (by unfold qI; omega)) (fun j => hJ _ _ (by unfold qJ; omega)) (hJ _ _ (by unfold qJ; omega)), hV.cong hm (fun k j h1 h2 => hI _ _ (by unfold qI; omega)) (hI _ _ (by unfold qI; omega)) (fun j => hJ _ _ (by unfold qJ; omega)) (fun j => hJ _ _ (by unfold qJ; omega)), hA.cong (fun j => hI _ _ (by unfold qI; omega)) (fun j => hJ _ _ (by unfold qJ; omega)), hT.cong (fun j => hI _ _ (by unfold qI; omega)) (hI _ _ (by unfold qI; omega)) (fun j => hJ _ _ (by unfold qJ; omega)) (hJ _ _ (by unfold qJ; omega)), hE.cong (hI _ _ (by unfold qI; omega)) (hI _ _ (by unfold qI; omega)) (hJ _ _ (by unfold qJ; omega)) (hJ _ _ (by unfold qJ; omega)), hO.cong (fun j => hI _ _ (by unfold qI; omega)) (hI _ _ (by unfold qI; omega)) (fun j => hJ _ _ (by unfold qJ; omega)) (hJ _ _ (by unfold qJ; omega))⟩
theorem Rel.cong {n m : Nat} {I I' J J' : Mem} (hm : n ≤ m) (hI : ∀ k j, ¬ qI k j → I' k j = I k j) (hJ : ∀ k j, ¬ qJ k j → J' k j = J k j) (h : Rel n I J) : Rel m I' J' := RelB.cong (by omega) hI hJ h
theorem Rel.J0 {n : Nat} {I J : Mem} (h : Rel n I J) (v : Int32) : Rel (n + 6) I (wr J 306 0 v) :=
  RelB.cong (by omega) (fun _ _ _ => rfl) (fun k j hq => by
    have : ¬ (k = 306 ∧ j = 0) := fun hh => hq (by unfold qJ; omega)
    simp only [wr, if_neg this]) h
