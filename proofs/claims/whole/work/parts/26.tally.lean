/-! THE TALLY: (2) AND (3) -/
def tAll (c : Nat) (s : Int32) (V : Nat → Int32) : Int32 := vsum V (bt s) 0 c 0
def tUp (c : Nat) (s : Int32) (V W : Nat → Int32) (v : Int32) : Int32 := vsum V (fun j => bt s j && decide (¬ v < W j)) 0 c 0
def tMidf (c : Nat) (s : Int32) (V W : Nat → Int32) : Nat → Int32 → Int32 := fun j m => if bt s j then (if m ≤ W j then m else if 2 * tUp c s V W (W j) < tAll c s V then m else W j) else m
def tMid (c : Nat) (s : Int32) (V W : Nat → Int32) (m0 : Int32) : Int32 := itr (tMidf c s V W) 0 c m0
def offI (a b : Int32) : Int32 := if b ≤ a then a - b else b - a
def tIn (s : Int32) (W : Nat → Int32) (tol m : Int32) (j : Nat) : Bool := bt s j && decide (¬ tol < offI (W j) m)
def tSup (c : Nat) (s : Int32) (W : Nat → Int32) (tol m : Int32) : Int32 := bsl (tIn s W tol m) 0 c 0
def tSpt (c : Nat) (s : Int32) (V W : Nat → Int32) (tol m : Int32) : Int32 := vsum V (tIn s W tol m) 0 c 0
def tSum (c : Nat) (s : Int32) (V W : Nat → Int32) (tol m : Int32) : Int32 := vsum (fun j => V j * W j) (tIn s W tol m) 0 c 0
def fdv (x y : Int32) : Int32 := if 0 ≤ x - x / y * y then x / y else x / y - 1
def tHas (c : Nat) (s : Int32) (V W : Nat → Int32) (tol m : Int32) : Bool := decide (¬ 2 * tSpt c s V W tol m ≤ tAll c s V)
def tLev (c : Nat) (s : Int32) (V W : Nat → Int32) (tol m : Int32) : Int32 := if tHas c s V W tol m then fdv (tSum c s V W tol m) (tSpt c s V W tol m) else 0
/-- votes of 1 to 9, values far from the first middle -/
def tOk (c : Nat) (s : Int32) (V W : Nat → Int32) : Prop := c ≤ 10 ∧ ∀ j, j < c → bt s j = true → bd 1 9 (V j) ∧ bd (-10098) 10098 (W j)
theorem bsl_succ {p : Nat → Bool} {d : Nat} : bsl p 0 (d + 1) 0 = if p d then bsl p 0 d 0 ||| bit1 d else bsl p 0 d 0 := by
  unfold bsl
  rw [itr_succ, Nat.zero_add]
theorem vsum_succ {V : Nat → Int32} {p : Nat → Bool} {d : Nat} : vsum V p 0 (d + 1) 0 = if p d then vsum V p 0 d 0 + V d else vsum V p 0 d 0 := by
  unfold vsum
  rw [itr_succ, Nat.zero_add]
theorem toInt_add {a b : Int32} (h1 : -2147483648 ≤ a.toInt + b.toInt) (h2 : a.toInt + b.toInt < 2147483648) : (a + b).toInt = a.toInt + b.toInt := by
  rw [Int32.toInt_add, Int.bmod_def]; omega
theorem toInt_sub {a b : Int32} (h1 : -2147483648 ≤ a.toInt - b.toInt) (h2 : a.toInt - b.toInt < 2147483648) : (a - b).toInt = a.toInt - b.toInt := by
  rw [Int32.toInt_sub, Int.bmod_def]; omega
theorem toInt_mul {a b : Int32} (h1 : -2147483648 ≤ a.toInt * b.toInt) (h2 : a.toInt * b.toInt < 2147483648) : (a * b).toInt = a.toInt * b.toInt := by
  rw [Int32.toInt_mul, Int.bmod_def]; omega
/-- sums of at most ten votes -/
theorem vsum_bd {V : Nat → Int32} {p : Nat → Bool} {lo hi : Int} (hlo : lo ≤ 0) (hhi : 0 ≤ hi) (hl2 : -1000000 ≤ lo) (hh2 : hi ≤ 1000000) : ∀ d, d ≤ 10 → (∀ j, j < d → p j = true → bd lo hi (V j)) → d * lo ≤ (vsum V p 0 d 0).toInt ∧ (vsum V p 0 d 0).toInt ≤ d * hi := by
  intro d
  induction d with
  | zero => intro _ _; have : (vsum V p 0 0 0).toInt = 0 := rfl; rw [this]; simp
  | succ d ih =>
    intro hd h
    obtain ⟨h1, h2⟩ := ih (by omega) (fun j hj => h j (by omega))
    have b1 : (10 : Int) * lo ≤ d * lo := Int.mul_le_mul_of_nonpos_right (by omega) hlo
    have b2 : (d : Int) * hi ≤ 10 * hi := Int.mul_le_mul_of_nonneg_right (by omega) hhi
    have e1 : ((d + 1 : Nat) : Int) * lo = d * lo + lo := by rw [Int.natCast_add]; simp [Int.add_mul]
    have e2 : ((d + 1 : Nat) : Int) * hi = d * hi + hi := by rw [Int.natCast_add]; simp [Int.add_mul]
    rw [vsum_succ, e1, e2]
    cases hp : p d
    · simp only [Bool.false_eq_true, if_false]
      omega
    · obtain ⟨h3, h4⟩ := h d (by omega) hp
      simp only [if_true]
      rw [toInt_add (by omega) (by omega)]
      omega
theorem tUp_cong {c : Nat} {s : Int32} {V V' W W' : Nat → Int32} {v : Int32} (h : ∀ j, j < c → bt s j = true → V j = V' j ∧ W j = W' j) : tUp c s V W v = tUp c s V' W' v := by
  unfold tUp vsum
  apply itr_congr
  intro i a _ hi
  show (if (bt s i && decide ¬v < W i) = true then a + V i else a) = if (bt s i && decide ¬v < W' i) = true then a + V' i else a
  cases hs : bt s i
  · simp only [Bool.false_and, Bool.false_eq_true, if_false]
  · obtain ⟨h1, h2⟩ := h i (by omega) hs
    rw [h1, h2]
theorem tAll_cong {c : Nat} {s : Int32} {V V' : Nat → Int32} (h : ∀ j, j < c → bt s j = true → V j = V' j) : tAll c s V = tAll c s V' := by
  unfold tAll vsum
  apply itr_congr
  intro i a _ hi
  cases hs : bt s i
  · rfl
  · rw [h i (by omega) hs]
theorem tMid_cong {c : Nat} {s m0 : Int32} {V V' W W' : Nat → Int32} (h : ∀ j, j < c → bt s j = true → V j = V' j ∧ W j = W' j) : tMid c s V W m0 = tMid c s V' W' m0 := by
  unfold tMid
  apply itr_congr
  intro i a _ hi
  unfold tMidf
  cases hs : bt s i
  · simp only [Bool.false_eq_true, if_false]
  · obtain ⟨h1, h2⟩ := h i (by omega) hs
    rw [h2, tUp_cong h, tAll_cong fun j hj hb => (h j hj hb).1]
theorem tIn_cong {c : Nat} {s tol m : Int32} {V V' W W' : Nat → Int32} (h : ∀ j, j < c → bt s j = true → V j = V' j ∧ W j = W' j) {j : Nat} (hj : j < c) : tIn s W tol m j = tIn s W' tol m j := by
  unfold tIn
  cases hs : bt s j
  · simp only [Bool.false_and]
  · rw [(h j hj hs).2]
theorem tSup_cong {c : Nat} {s tol m : Int32} {V V' W W' : Nat → Int32} (h : ∀ j, j < c → bt s j = true → V j = V' j ∧ W j = W' j) : tSup c s W tol m = tSup c s W' tol m := bsl_cong fun i hi => tIn_cong h hi
theorem vsum_cong2 {c : Nat} {V V' : Nat → Int32} {p p' : Nat → Bool} (h : ∀ j, j < c → p j = p' j ∧ (p j = true → V j = V' j)) : vsum V p 0 c 0 = vsum V' p' 0 c 0 := by
  unfold vsum
  apply itr_congr
  intro i a _ hi
  obtain ⟨h1, h2⟩ := h i (by omega)
  rw [← h1]
  cases hp : p i
  · rfl
  · rw [h2 hp]
theorem tIn_bt {s tol m : Int32} {W : Nat → Int32} {j : Nat} (h : tIn s W tol m j = true) : bt s j = true := by
  unfold tIn at h
  simp at h
  exact h.1
theorem tSpt_cong {c : Nat} {s tol m : Int32} {V V' W W' : Nat → Int32} (h : ∀ j, j < c → bt s j = true → V j = V' j ∧ W j = W' j) : tSpt c s V W tol m = tSpt c s V' W' tol m := vsum_cong2 fun j hj => ⟨tIn_cong h hj, fun hp => (h j hj (tIn_bt hp)).1⟩
theorem tSum_cong {c : Nat} {s tol m : Int32} {V V' W W' : Nat → Int32} (h : ∀ j, j < c → bt s j = true → V j = V' j ∧ W j = W' j) : tSum c s V W tol m = tSum c s V' W' tol m := vsum_cong2 fun j hj => ⟨tIn_cong h hj, fun hp => by rw [(h j hj (tIn_bt hp)).1, (h j hj (tIn_bt hp)).2]⟩
theorem tHas_cong {c : Nat} {s tol m : Int32} {V V' W W' : Nat → Int32} (h : ∀ j, j < c → bt s j = true → V j = V' j ∧ W j = W' j) : tHas c s V W tol m = tHas c s V' W' tol m := by
  unfold tHas
  rw [tSpt_cong h, tAll_cong fun j hj hb => (h j hj hb).1]
theorem tLev_cong {c : Nat} {s tol m : Int32} {V V' W W' : Nat → Int32} (h : ∀ j, j < c → bt s j = true → V j = V' j ∧ W j = W' j) : tLev c s V W tol m = tLev c s V' W' tol m := by
  unfold tLev
  rw [tHas_cong h, tSum_cong h, tSpt_cong h]
/-- the two first middles tell the same -/
theorem mid_two {c : Nat} {s : Int32} {V W : Nat → Int32} (h : tOk c s V W) : tMid c s V W 1000000 = tMid c s V W 100000 ∧ bd (-10098) 10098 (tMid c s V W 100000) ∨ tMid c s V W 1000000 = 1000000 ∧ tMid c s V W 100000 = 100000 := by
  have key : ∀ d, d ≤ c → itr (tMidf c s V W) 0 d 1000000 = itr (tMidf c s V W) 0 d 100000 ∧ bd (-10098) 10098 (itr (tMidf c s V W) 0 d 100000) ∨ itr (tMidf c s V W) 0 d 1000000 = 1000000 ∧ itr (tMidf c s V W) 0 d 100000 = 100000 := by
    intro d
    induction d with
    | zero => intro _; exact Or.inr ⟨rfl, rfl⟩
    | succ d ih =>
      intro hd
      have ih := ih (by omega)
      rw [itr_succ, itr_succ, Nat.zero_add]
      generalize itr (tMidf c s V W) 0 d 1000000 = a at *
      generalize itr (tMidf c s V W) 0 d 100000 = b at *
      unfold tMidf
      cases hs : bt s d
      · simpa using ih
      · simp only [if_true]
        have hw := (h.2 d (by omega) hs).2
        unfold bd at hw
        rcases ih with ⟨rfl, hb⟩ | ⟨rfl, rfl⟩
        · refine Or.inl ⟨rfl, ?_⟩
          split
          · exact hb
          · split
            · exact hb
            · exact hw
        · have h1 : ¬ (1000000 : Int32) ≤ W d := by
            rw [Int32.le_iff_toInt_le]
            have : (1000000 : Int32).toInt = 1000000 := rfl
            omega
          have h2 : ¬ (100000 : Int32) ≤ W d := by
            rw [Int32.le_iff_toInt_le]
            have : (100000 : Int32).toInt = 100000 := rfl
            omega
          rw [if_neg h1, if_neg h2]
          split
          · exact Or.inr ⟨rfl, rfl⟩
          · exact Or.inl ⟨rfl, hw⟩
  exact key c (Nat.le_refl _)
theorem tIn_two {c : Nat} {s tol : Int32} {V W : Nat → Int32} (h : tOk c s V W) (ht : bd 0 999 tol) {j : Nat} (hj : j < c) : tIn s W tol (tMid c s V W 1000000) j = tIn s W tol (tMid c s V W 100000) j := by
  rcases mid_two h with ⟨e, -⟩ | ⟨e1, e2⟩
  · rw [e]
  · rw [e1, e2]
    unfold tIn
    cases hs : bt s j
    · simp only [Bool.false_and]
    · have hw := (h.2 j hj hs).2
      unfold bd at hw ht
      have k1 : (1000000 : Int32).toInt = 1000000 := rfl
      have k2 : (100000 : Int32).toInt = 100000 := rfl
      have h1 : tol < offI (W j) 1000000 := by
        unfold offI
        rw [if_neg (by rw [Int32.le_iff_toInt_le]; omega), Int32.lt_iff_toInt_lt, toInt_sub (by omega) (by omega)]
        omega
      have h2 : tol < offI (W j) 100000 := by
        unfold offI
        rw [if_neg (by rw [Int32.le_iff_toInt_le]; omega), Int32.lt_iff_toInt_lt, toInt_sub (by omega) (by omega)]
        omega
      simp [h1, h2]
theorem iabs_off {w m : Int32} (hw : bd (-10098) 10098 w) (hm : bd (-1000000) 1000000 m) : iabs (w - m) = offI w m := by
  unfold bd at hw hm
  unfold iabs offI
  have e := toInt_sub (a := w) (b := m) (by omega) (by omega)
  have z : (0 : Int32).toInt = 0 := rfl
  by_cases h : m ≤ w
  · rw [if_pos h, if_pos]
    rw [Int32.le_iff_toInt_le] at h ⊢
    omega
  · rw [if_neg h, if_neg]
    · apply Int32.toInt_inj.mp
      rw [toInt_sub (a := 0) (b := w - m) (by omega) (by omega), e, toInt_sub (a := m) (b := w) (by omega) (by omega)]
      omega
    · rw [Int32.le_iff_toInt_le] at h ⊢
      omega
/-! division rounded down -/
theorem sgn_xor {x y : Int32} (hy : 0 ≤ y) : (0 ≤ (x ^^^ y)) = (0 ≤ x) := by
  have key : ∀ z : Int32, (0 ≤ z) = (bt z 31 = false) := by
    intro z
    have h1 : z.toBitVec.msb = decide (z.toBitVec.toInt < 0) := BitVec.msb_eq_toInt
    have h2 : bt z 31 = z.toBitVec.msb := by unfold bt; rw [BitVec.msb_eq_getLsbD_last]
    rw [h2, h1, Int32.le_iff_toInt_le]
    have z0 : (0 : Int32).toInt = 0 := rfl
    rw [z0]
    show (0 ≤ z.toBitVec.toInt) = _
    simp
  rw [key] at hy
  rw [key, key, b_xor, hy]
  simp
theorem tdiv_q {x y : Int} (hx : -2147483648 ≤ x) (hx2 : x < 2147483648) (hy : 0 < y) (hy2 : y < 2147483648) : -2147483648 ≤ x.tdiv y ∧ x.tdiv y < 2147483648 ∧ -2147483648 ≤ x.tdiv y * y ∧ x.tdiv y * y < 2147483648 ∧ x - x.tdiv y * y = x.tmod y := by
  have h1 := Int.tmod_add_tdiv_mul x y
  have h2 : (x.tmod y).natAbs ≤ x.natAbs := by
    rw [Int.natAbs_tmod]
    exact Nat.mod_le _ _
  have h3 : (x.tdiv y).natAbs ≤ x.natAbs := by
    rw [Int.natAbs_tdiv]
    exact Nat.div_le_self _ _
  rcases Int.le_total 0 x with h | h
  · have h4 : 0 ≤ x.tmod y := Int.tmod_nonneg y h
    have h5 : 0 ≤ x.tdiv y := Int.tdiv_nonneg h (by omega)
    refine ⟨?_, ?_, ?_, ?_, ?_⟩ <;> omega
  · have h4 : x.tmod y ≤ 0 := by
      have := Int.tmod_nonneg y (show 0 ≤ -x by omega)
      rw [Int.neg_tmod] at this
      omega
    have h5 : x.tdiv y ≤ 0 := by
      have := Int.tdiv_nonneg (show 0 ≤ -x by omega) (show 0 ≤ y by omega)
      rw [Int.neg_tdiv] at this
      omega
    refine ⟨?_, ?_, ?_, ?_, ?_⟩ <;> omega
theorem dv_f {x y : Int32} (hy : 0 < y.toInt) : (x / y).toInt = x.toInt.tdiv y.toInt ∧ (x / y * y).toInt = x.toInt.tdiv y.toInt * y.toInt ∧ (x - x / y * y).toInt = x.toInt.tmod y.toInt := by
  have hx1 := Int32.le_toInt x
  have hx2 := Int32.toInt_lt x
  have hy2 := Int32.toInt_lt y
  obtain ⟨a1, a2, a3, a4, a5⟩ := tdiv_q (x := x.toInt) (y := y.toInt) (by omega) (by omega) hy (by omega)
  have e1 : (x / y).toInt = x.toInt.tdiv y.toInt := by
    rw [Int32.toInt_div, Int.bmod_def]
    omega
  have e2 : (x / y * y).toInt = x.toInt.tdiv y.toInt * y.toInt := by
    rw [toInt_mul (by rw [e1]; omega) (by rw [e1]; omega), e1]
  refine ⟨e1, e2, ?_⟩
  have b : -2147483648 ≤ x.toInt.tmod y.toInt ∧ x.toInt.tmod y.toInt < 2147483648 := by
    have h2 : (x.toInt.tmod y.toInt).natAbs ≤ x.toInt.natAbs := by
      rw [Int.natAbs_tmod]
      exact Nat.mod_le _ _
    omega
  rw [toInt_sub (by rw [e2]; omega) (by rw [e2]; omega), e2]
  exact a5
theorem floor_e {x y : Int32} (hy : 0 < y.toInt) : fX8_floor x y = some (fdv x y) := by
  have hy0 : ¬ y = 0 := by
    intro h
    subst h
    have : (0 : Int32).toInt = 0 := rfl
    omega
  unfold fX8_floor dvi rmi
  rw [if_neg hy0, if_neg hy0]
  rfl
theorem fdiv_e {x y : Int32} (hy : 0 < y.toInt) : fJ9_floorDiv_7cf53 x y = some (fdv x y) := by
  have hy0 : ¬ y = 0 := by
    intro h
    subst h
    have : (0 : Int32).toInt = 0 := rfl
    omega
  have z : (0 : Int32).toInt = 0 := rfl
  have hy1 : 0 ≤ y := by rw [Int32.le_iff_toInt_le]; omega
  obtain ⟨e1, e2, e3⟩ := dv_f (x := x) hy
  unfold fJ9_floorDiv_7cf53 dvi fdv
  rw [if_neg hy0, ob_s]
  simp only [sgn_xor hy1]
  by_cases hx : 0 ≤ x
  · rw [if_pos hx, if_pos]
    rw [Int32.le_iff_toInt_le] at hx ⊢
    rw [e3, z]
    exact Int.tmod_nonneg _ (by omega)
  · rw [if_neg hx]
    have hx' : x.toInt < 0 := by
      rw [Int32.le_iff_toInt_le] at hx
      omega
    have h4 : x.toInt.tmod y.toInt ≤ 0 := by
      have := Int.tmod_nonneg y.toInt (show 0 ≤ -x.toInt by omega)
      rw [Int.neg_tmod] at this
      omega
    have h5 := Int.tmod_add_tdiv_mul x.toInt y.toInt
    by_cases h : x / y * y = x
    · rw [if_pos h, if_pos]
      rw [h, Int32.sub_self]
      decide
    · rw [if_neg h, if_neg]
      rw [Int32.le_iff_toInt_le, e3, z]
      intro h6
      apply h
      apply Int32.toInt_inj.mp
      rw [e2]
      omega
