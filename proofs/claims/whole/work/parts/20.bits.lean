/-! ARITHMETIC: bits of Int32 (family bt out of the given laws), indices, loops -/
def bt (x : Int32) (i : Nat) : Bool := x.toBitVec.getLsbD i
theorem b_ext {x y : Int32} (h : ∀ i, i < 32 → bt x i = bt y i) : x = y := Int32.toBitVec_inj.mp (BitVec.eq_of_getLsbD_eq (fun i hi => h i hi))
theorem b_or (x y : Int32) (i : Nat) : bt (x ||| y) i = (bt x i || bt y i) := by unfold bt; rw [Int32.toBitVec_or, BitVec.getLsbD_or]
theorem b_and (x y : Int32) (i : Nat) : bt (x &&& y) i = (bt x i && bt y i) := by unfold bt; rw [Int32.toBitVec_and, BitVec.getLsbD_and]
theorem b_xor (x y : Int32) (i : Nat) : bt (x ^^^ y) i = (bt x i ^^ bt y i) := by unfold bt; rw [Int32.toBitVec_xor, BitVec.getLsbD_xor]
theorem b_big {x : Int32} {i : Nat} (h : 32 ≤ i) : bt x i = false := BitVec.getLsbD_of_ge _ _ h
theorem b_255 (i : Nat) : bt 255 i = decide (i < 8) := by
  rcases Nat.lt_or_ge i 32 with h | h
  · exact (by decide +kernel : ∀ i, i < 32 → bt 255 i = decide (i < 8)) i h
  · rw [b_big h, decide_eq_false (by omega)]
theorem b_65535 (i : Nat) : bt 65535 i = decide (i < 16) := by
  rcases Nat.lt_or_ge i 32 with h | h
  · exact (by decide +kernel : ∀ i, i < 32 → bt 65535 i = decide (i < 16)) i h
  · rw [b_big h, decide_eq_false (by omega)]
theorem b_m1 : ∀ i, i < 32 → bt (-1) i = true := by decide +kernel
theorem b_0 (i : Nat) : bt 0 i = false := BitVec.getLsbD_zero
theorem s_l : ∀ n, n < 32 → ((nI n &&& 31).toBitVec.smod 32).toNat = n := by decide +kernel
theorem s_u : ∀ n, n < 32 → (((nI n).toUInt32 &&& Int32.toUInt32 31).toBitVec % 32).toNat = n := by decide +kernel
theorem b_shl (n : Nat) (hn : n < 32) (x : Int32) {i : Nat} (hi : i < 32) : bt (x <<< (nI n &&& 31)) i = (decide (n ≤ i) && bt x (i - n)) := by
  unfold bt
  rw [Int32.toBitVec_shiftLeft]
  show (x.toBitVec <<< ((nI n &&& 31).toBitVec.smod 32).toNat).getLsbD i = _
  rw [s_l n hn, BitVec.getLsbD_shiftLeft]
  rcases Nat.lt_or_ge i n with h | h
  · simp [h, Nat.not_le.mpr h]
  · simp [hi, h, Nat.not_lt.mpr h]
theorem b_ushr (n : Nat) (hn : n < 32) (x : Int32) (i : Nat) : bt ((x.toUInt32 >>> ((nI n).toUInt32 &&& Int32.toUInt32 31)).toInt32) i = bt x (n + i) := by
  show (x.toUInt32 >>> ((nI n).toUInt32 &&& Int32.toUInt32 31)).toBitVec.getLsbD i = x.toUInt32.toBitVec.getLsbD (n + i)
  rw [UInt32.toBitVec_shiftRight]
  show (x.toUInt32.toBitVec >>> (((nI n).toUInt32 &&& Int32.toUInt32 31).toBitVec % 32).toNat).getLsbD i = _
  rw [s_u n hn, BitVec.getLsbD_ushiftRight]
theorem b_sshr (n : Nat) (hn : n < 32) (x : Int32) {i : Nat} (hi : i < 32) : bt (x >>> (nI n &&& 31)) i = if n + i < 32 then bt x (n + i) else bt x 31 := by
  unfold bt
  rw [Int32.toBitVec_shiftRight]
  show (x.toBitVec.sshiftRight ((nI n &&& 31).toBitVec.smod 32).toNat).getLsbD i = _
  rw [s_l n hn, BitVec.getLsbD_sshiftRight, BitVec.msb_eq_getLsbD_last]
  simp [hi]
theorem lit_nI (n : Nat) : (OfNat.ofNat n : Int32) = nI n := rfl
theorem nI_addn (a b : Nat) : nI a + nI b = nI (a + b) := (Int32.ofNat_add a b).symm
theorem nI_le_i {a b : Nat} (ha : a < 2 ^ 31) (hb : b < 2 ^ 31) : nI a ≤ nI b ↔ a ≤ b := by
  rw [Int32.le_iff_toInt_le, nI_toInt ha, nI_toInt hb]; omega
theorem nI_lt_i {a b : Nat} (ha : a < 2 ^ 31) (hb : b < 2 ^ 31) : nI a < nI b ↔ a < b := by
  rw [Int32.lt_iff_toInt_lt, nI_toInt ha, nI_toInt hb]; omega
theorem nI_eq_i {a b : Nat} (ha : a < 2 ^ 31) (hb : b < 2 ^ 31) : nI a = nI b ↔ a = b := by
  rw [← Int32.toInt_inj, nI_toInt ha, nI_toInt hb]; omega
theorem nI_sub_i {a b : Nat} (h : b ≤ a) (ha : a < 2 ^ 31) : nI a - nI b = nI (a - b) := by
  have e : nI a = nI (a - b) + nI b := by rw [nI_addn]; congr 1; omega
  rw [e, Int32.add_sub_cancel]
theorem nI_mul_n (a b : Nat) : nI a * nI b = nI (a * b) := (Int32.ofNat_mul a b).symm
theorem ald_n {I : Mem} {k n j : Nat} (h : j < n) (hn : n < 2 ^ 31) : ald I k n (nI j) = some (I k j) := by
  unfold ald
  rw [if_neg (nI_in h hn), nI_clamp (by omega)]
theorem ast_n {I : Mem} {k n j : Nat} {v : Int32} (h : j < n) (hn : n < 2 ^ 31) : ast I k n (nI j) v = some (wr I k j v) := by
  unfold ast
  rw [if_neg (nI_in h hn), nI_clamp (by omega)]
theorem rld_n {n j : Nat} (h : j < n) (hn : n < 2 ^ 31) : rld n (nI j) = some j := by
  unfold rld
  rw [if_neg (nI_in h hn), nI_clamp (by omega)]
theorem plet_d {A B : Type} (a : A) (f : A → B) : plet a f = f a := rfl
theorem wr_s {I : Mem} {k j : Nat} {v : Int32} : wr I k j v k j = v := by simp [wr]
theorem wr_k {I : Mem} {k j k' j' : Nat} {v : Int32} (h : k' ≠ k) : wr I k j v k' j' = I k' j' := by simp [wr, h]
theorem wr_j {I : Mem} {k j k' j' : Nat} {v : Int32} (h : j' ≠ j) : wr I k j v k' j' = I k' j' := by simp [wr, h]
/-- a loop's folding: f at j, j + 1 .. d times -/
def itr {A : Type} (f : Nat → A → A) : Nat → Nat → A → A
  | _, 0, a => a
  | j, d + 1, a => itr f (j + 1) d (f j a)
theorem itr_congr {A : Type} {f g : Nat → A → A} : ∀ (d j : Nat) (a : A), (∀ i a, j ≤ i → i < j + d → f i a = g i a) → itr f j d a = itr g j d a
  | 0, _, _, _ => rfl
  | d + 1, j, a, h => by
    unfold itr
    rw [h j a (Nat.le_refl _) (by omega)]
    exact itr_congr d (j + 1) _ fun i a h1 h2 => h i a (by omega) (by omega)
theorem itr_inv {A : Type} {f : Nat → A → A} {P : Nat → A → Prop} : ∀ (d j : Nat) (a : A), P j a → (∀ i a, j ≤ i → i < j + d → P i a → P (i + 1) (f i a)) → P (j + d) (itr f j d a)
  | 0, _, _, h, _ => h
  | d + 1, j, a, h, hs => by
    unfold itr
    have := itr_inv d (j + 1) (f j a) (hs j a (Nat.le_refl _) (by omega) h) fun i a h1 h2 => hs i a (by omega) (by omega)
    rw [show j + (d + 1) = j + 1 + d by omega]
    exact this
theorem itr_succ {A : Type} {f : Nat → A → A} : ∀ (d j : Nat) (a : A), itr f j (d + 1) a = f (j + d) (itr f j d a)
  | 0, _, _ => rfl
  | d + 1, j, a => by
    show itr f (j + 1) (d + 1) (f j a) = f (j + (d + 1)) (itr f (j + 1) d (f j a))
    rw [itr_succ d (j + 1) (f j a), show j + 1 + d = j + (d + 1) by omega]
/-- one bit -/
def bit1 (j : Nat) : Int32 := (1 : Int32) <<< (nI j &&& 31)
theorem b_bit1 {j i : Nat} (hj : j < 32) (hi : i < 32) : bt (bit1 j) i = decide (i = j) := by
  unfold bit1
  rw [b_shl j hj 1 hi]
  have h1 : ∀ k, k < 32 → bt 1 k = decide (k = 0) := by decide +kernel
  rw [h1 _ (by omega)]
  by_cases h : i = j
  · subst h; simp
  · by_cases h2 : j ≤ i
    · simp [h, show ¬ i - j = 0 by omega]
    · simp [h, h2]
theorem b_has {x : Int32} {j : Nat} (hj : j < 32) : ((x >>> (nI j &&& 31)) &&& 1) = 1 ↔ bt x j = true := by
  have h1 : ∀ k, k < 32 → bt 1 k = decide (k = 0) := by decide +kernel
  constructor
  · intro h
    have h2 : bt ((x >>> (nI j &&& 31)) &&& 1) 0 = true := by rw [h]; exact h1 0 (by omega)
    rw [b_and, b_sshr j hj x (by omega), if_pos (by omega), Nat.add_zero] at h2
    simp at h2
    exact h2.1
  · intro h
    apply b_ext
    intro i hi
    rw [b_and, b_sshr j hj x hi, h1 i hi]
    by_cases h0 : i = 0
    · subst h0; rw [if_pos (by omega), Nat.add_zero, h]; rfl
    · simp [h0]
theorem b_not {x : Int32} {i : Nat} (hi : i < 32) : bt (x ^^^ (-1)) i = !(bt x i) := by
  rw [b_xor, b_m1 i hi]
  cases bt x i <;> rfl
theorem b_z0 {x : Int32} : x = 0 ↔ ∀ i, i < 32 → bt x i = false := by
  constructor
  · intro h i _; rw [h, b_0]
  · intro h; apply b_ext; intro i hi; rw [h i hi, b_0]
/-- a set told apart: bits j .. j + d by p -/
def bsl (p : Nat → Bool) : Nat → Nat → Int32 → Int32 := itr (fun j a => if p j then a ||| bit1 j else a)
theorem b_bsl {p : Nat → Bool} {i : Nat} (hi : i < 32) : ∀ (d j : Nat) (a : Int32), j + d ≤ 32 → bt (bsl p j d a) i = (bt a i || (decide (j ≤ i) && decide (i < j + d) && p i))
  | 0, j, a, _ => by
    show bt a i = _
    have : (decide (j ≤ i) && decide (i < j + 0)) = false := by
      by_cases h : j ≤ i
      · simp [show ¬ i < j by omega]
      · simp [h]
    rw [this]; simp
  | d + 1, j, a, h => by
    show bt (bsl p (j + 1) d (if p j then a ||| bit1 j else a)) i = _
    rw [b_bsl hi d (j + 1) _ (by omega)]
    by_cases hj : i = j
    · subst hj
      cases hp : p i
      · simp
      · simp [b_or, b_bit1 hi hi]
    · have e : bt (if p j then a ||| bit1 j else a) i = bt a i := by
        split
        · rw [b_or, b_bit1 (by omega) hi]; simp [hj]
        · rfl
      rw [e]
      congr 2
      by_cases h1 : j ≤ i
      · simp [h1, show j + 1 ≤ i by omega, show (i < j + 1 + d) = (i < j + (d + 1)) by congr 1; omega]
      · simp [h1, show ¬ j + 1 ≤ i by omega]
/-! small tools for the functions -/
def b2i (p : Bool) : Int32 := if p then 1 else 0
theorem b2i_t : b2i true = 1 := rfl
theorem b2i_f : b2i false = 0 := rfl
theorem b2i_ne {p : Bool} : (b2i p = 0) = (p = false) := by cases p <;> simp [b2i]
theorem b2i_e1 {p : Bool} : (b2i p = 1) = (p = true) := by cases p <;> simp [b2i]
theorem ite_b2i {A : Type} {p : Bool} {x y : A} : (if b2i p = 0 then x else y) = if p = true then y else x := by cases p <;> simp [b2i]
theorem ite_b2i1 {A : Type} {p : Bool} {x y : A} : (if b2i p = 1 then x else y) = if p = true then x else y := by cases p <;> simp [b2i]
theorem zbo_b {p : Bool} : zbo (b2i p) = some (b2i p) := by cases p <;> rfl
theorem zbo_0 : zbo 0 = some 0 := rfl
theorem zbo_1 : zbo 1 = some 1 := rfl
theorem zput_b {I : Mem} {k j : Nat} {p : Bool} : zput I k j (b2i p) = some (wr I k j (b2i p)) := by cases p <;> rfl
theorem zput_0 {I : Mem} {k j : Nat} : zput I k j 0 = some (wr I k j 0) := rfl
theorem ite_some {A : Type} {c : Prop} [Decidable c] {x y : A} : (if c then some x else some y) = some (if c then x else y) := by split <;> rfl
theorem ob_s {A B : Type} {x : A} {f : A → Option B} : Option.bind (some x) f = f x := rfl
theorem sh_b {x : Int32} {j : Nat} (hj : j < 32) : ((x >>> (nI j &&& 31)) &&& 1) = b2i (bt x j) := by
  cases h : bt x j
  · apply b_ext
    intro i hi
    have h1 : ∀ k, k < 32 → bt 1 k = decide (k = 0) := by decide +kernel
    rw [b_and, b_sshr j hj x hi, h1 i hi, b2i_f, b_0]
    by_cases h0 : i = 0
    · subst h0; rw [if_pos (by omega), Nat.add_zero, h]; rfl
    · simp [h0]
  · rw [(b_has hj).mpr h]; rfl
theorem has7 {x : Int32} {j : Nat} (hj : j < 32) : fX7_has x (nI j) = some (b2i (bt x j)) := by
  unfold fX7_has
  rw [sh_b hj]
  cases bt x j <;> rfl
theorem has8 {x : Int32} {j : Nat} (hj : j < 32) : fX8_has x (nI j) = some (b2i (bt x j)) := by
  unfold fX8_has
  rw [sh_b hj]
  cases bt x j <;> rfl
theorem nI_lt0 {n : Nat} (h : n < 2 ^ 31) : (nI n < 0) = False := eq_false (nI_pos h)
theorem nI_0le {n : Nat} (h : n < 2 ^ 31) : (0 ≤ nI n) = True := eq_true (nI_pos' h)
theorem nI_leP {a b : Nat} (ha : a < 2 ^ 31) (hb : b < 2 ^ 31) : (nI a ≤ nI b) = (a ≤ b) := propext (nI_leI ha hb)
theorem nI_ltP {a b : Nat} (ha : a < 2 ^ 31) (hb : b < 2 ^ 31) : (nI a < nI b) = (a < b) := propext (nI_ltI ha hb)
theorem nI_eqP {a b : Nat} (ha : a < 2 ^ 31) (hb : b < 2 ^ 31) : (nI a = nI b) = (a = b) := propext (nI_eq ha hb)
theorem nI_le0 {n : Nat} (h : n < 2 ^ 31) : (nI n ≤ 0) = (n = 0) := by
  have : (nI n ≤ nI 0) = (n ≤ 0) := nI_leP h (by omega)
  rw [show (0 : Int32) = nI 0 from rfl, this]
  exact propext Nat.le_zero
theorem nI_eq0 {n : Nat} (h : n < 2 ^ 31) : (nI n = 0) = (n = 0) := nI_eqP (b := 0) h (by omega)
theorem nI_sub {a b : Nat} (h : b ≤ a) (ha : a < 2 ^ 31) : nI a - nI b = nI (a - b) := nI_sub_i h ha
theorem nI_sub1 {a : Nat} (h : 1 ≤ a) (ha : a < 2 ^ 31) : nI a - 1 = nI (a - 1) := nI_sub_i h ha
theorem zF_g {d : Nat} (h : d < 4000) : d < zF := h
theorem fuel {d n : Nat} (h : d < n) : ∃ k, n = k + 1 := ⟨n - 1, by omega⟩
/-- a set with no bits from 10 on is a number below 1024 -/
theorem set10 {x : Int32} (h : ∀ i, 10 ≤ i → bt x i = false) : ∃ n, n < 1024 ∧ x = nI n := by
  refine ⟨x.toBitVec.toNat, ?_, ?_⟩
  · apply Nat.lt_pow_two_of_testBit (n := 10)
    intro i hi
    have := h i hi
    unfold bt at this
    rw [BitVec.testBit_toNat]
    exact this
  · apply Int32.toBitVec_inj.mp
    show x.toBitVec = BitVec.ofNat 32 x.toBitVec.toNat
    simp
set_option maxRecDepth 100000 in
theorem bc_e0 : ∀ n, n < 1024 → fJ6_bitCount_0f7a4 (nI n) = fX8_bits (nI n) := by decide +kernel
def pc10 (x : Int32) : Int32 := itr (fun j a => a + b2i (bt x j)) 0 10 0
theorem bits8_L {x : Int32} : ∀ (d j n : Nat) (a : Int32), j + d = 10 → d < n → fX8_bits_L4 x n (nI j) a = some (itr (fun j a => a + b2i (bt x j)) j d a) := by
  intro d
  induction d with
  | zero =>
    intro j n a hj hn
    obtain ⟨n, rfl⟩ := fuel hn
    rw [fX8_bits_L4, show (10 : Int32) = nI 10 from rfl, if_pos (show nI 10 ≤ nI j by rw [nI_leP (by omega) (by omega)]; omega)]
    rfl
  | succ d ih =>
    intro j n a hj hn
    obtain ⟨n, rfl⟩ := fuel hn
    rw [fX8_bits_L4, show (10 : Int32) = nI 10 from rfl, if_neg (show ¬ nI 10 ≤ nI j by rw [nI_leP (by omega) (by omega)]; omega), sh_b (by omega), nI_1]
    exact ih (j + 1) n _ (by omega) (by omega)
theorem bits8 {x : Int32} : fX8_bits x = some (pc10 x) := by
  unfold fX8_bits
  have h := bits8_L (x := x) 10 0 zF 0 rfl (zF_g (by omega))
  show Option.bind (fX8_bits_L4 x zF (nI 0) 0) _ = _
  rw [h]
  rfl
theorem bc_e {x : Int32} (h : ∀ i, 10 ≤ i → bt x i = false) : fJ6_bitCount_0f7a4 x = some (pc10 x) := by
  obtain ⟨n, hn, rfl⟩ := set10 h
  rw [bc_e0 n hn, bits8]
