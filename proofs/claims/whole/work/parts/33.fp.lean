/-! QUOTIENTS THAT ARE NUMBERS -/
theorem fp_fin64 {s : Bool} {c : Nat} {q : Int} (hc : c < 2 ^ 53) (hq : q ≤ 971) : Jvm.FP.Core.encode Jvm.FP.Core.b64 (.fin s c q) % 2 ^ 63 ≤ 0x7ff0000000000000 := by
  have e1 : Jvm.FP.Core.Fmt.tails Jvm.FP.Core.b64 = 4503599627370496 := by decide
  have e2 : Jvm.FP.Core.Fmt.exps Jvm.FP.Core.b64 = 2048 := by decide
  have e3 : Jvm.FP.Core.Fmt.qmin Jvm.FP.Core.b64 = -1074 := by decide
  have hs : s.toNat = 0 ∨ s.toNat = 1 := by cases s <;> simp
  simp only [Jvm.FP.Core.encode, Jvm.FP.Core.assemble]
  rw [e1, e2, e3]
  split
  · rcases hs with h | h <;> rw [h] <;> omega
  · rcases hs with h | h <;> rw [h] <;> omega
theorem fp_fin32 {s : Bool} {c : Nat} {q : Int} (hc : c < 2 ^ 24) (hq : q ≤ 104) : Jvm.FP.Core.encode Jvm.FP.Core.b32 (.fin s c q) % 2 ^ 31 ≤ 0x7f800000 := by
  have e1 : Jvm.FP.Core.Fmt.tails Jvm.FP.Core.b32 = 8388608 := by decide
  have e2 : Jvm.FP.Core.Fmt.exps Jvm.FP.Core.b32 = 256 := by decide
  have e3 : Jvm.FP.Core.Fmt.qmin Jvm.FP.Core.b32 = -149 := by decide
  have hs : s.toNat = 0 ∨ s.toNat = 1 := by cases s <;> simp
  simp only [Jvm.FP.Core.encode, Jvm.FP.Core.assemble]
  rw [e1, e2, e3]
  split
  · rcases hs with h | h <;> rw [h] <;> omega
  · rcases hs with h | h <;> rw [h] <;> omega
theorem fp_inf64 {s : Bool} : Jvm.FP.Core.encode Jvm.FP.Core.b64 (.inf s) % 2 ^ 63 ≤ 0x7ff0000000000000 := by cases s <;> decide
theorem fp_inf32 {s : Bool} : Jvm.FP.Core.encode Jvm.FP.Core.b32 (.inf s) % 2 ^ 31 ≤ 0x7f800000 := by cases s <;> decide
theorem fp_bnd64 {s : Bool} {c : Nat} {q : Int} (hc : c < 2 ^ 53) : Jvm.FP.Core.encode Jvm.FP.Core.b64 (Jvm.FP.Core.bound Jvm.FP.Core.b64 s c q) % 2 ^ 63 ≤ 0x7ff0000000000000 := by
  unfold Jvm.FP.Core.bound
  have e4 : Jvm.FP.Core.Fmt.qmax Jvm.FP.Core.b64 = 971 := by decide
  rw [e4]
  split
  · exact fp_fin64 hc ‹_›
  · exact fp_inf64
theorem fp_bnd32 {s : Bool} {c : Nat} {q : Int} (hc : c < 2 ^ 24) : Jvm.FP.Core.encode Jvm.FP.Core.b32 (Jvm.FP.Core.bound Jvm.FP.Core.b32 s c q) % 2 ^ 31 ≤ 0x7f800000 := by
  unfold Jvm.FP.Core.bound
  have e4 : Jvm.FP.Core.Fmt.qmax Jvm.FP.Core.b32 = 104 := by decide
  rw [e4]
  split
  · exact fp_fin32 hc ‹_›
  · exact fp_inf32
theorem fp_rr64 {s : Bool} {a b : Nat} {e : Int} : Jvm.FP.Core.encode Jvm.FP.Core.b64 (Jvm.FP.Core.roundRatio Jvm.FP.Core.b64 s a b e) % 2 ^ 63 ≤ 0x7ff0000000000000 := by
  unfold Jvm.FP.Core.roundRatio Jvm.FP.Core.roundAt Jvm.FP.Core.settle
  have e3 : Jvm.FP.Core.Fmt.qmin Jvm.FP.Core.b64 = -1074 := by decide
  have e5 : Jvm.FP.Core.Fmt.p Jvm.FP.Core.b64 = 53 := by decide
  have e1 : Jvm.FP.Core.Fmt.tails Jvm.FP.Core.b64 = 4503599627370496 := by decide
  split
  · rw [e3]; exact fp_fin64 (by decide) (by decide)
  · split
    · next h => rw [e5] at h; exact fp_bnd64 h
    · rw [e1]; exact fp_bnd64 (by decide)
theorem fp_rr32 {s : Bool} {a b : Nat} {e : Int} : Jvm.FP.Core.encode Jvm.FP.Core.b32 (Jvm.FP.Core.roundRatio Jvm.FP.Core.b32 s a b e) % 2 ^ 31 ≤ 0x7f800000 := by
  unfold Jvm.FP.Core.roundRatio Jvm.FP.Core.roundAt Jvm.FP.Core.settle
  have e3 : Jvm.FP.Core.Fmt.qmin Jvm.FP.Core.b32 = -149 := by decide
  have e5 : Jvm.FP.Core.Fmt.p Jvm.FP.Core.b32 = 24 := by decide
  have e1 : Jvm.FP.Core.Fmt.tails Jvm.FP.Core.b32 = 8388608 := by decide
  split
  · rw [e3]; exact fp_fin32 (by decide) (by decide)
  · split
    · next h => rw [e5] at h; exact fp_bnd32 h
    · rw [e1]; exact fp_bnd32 (by decide)
theorem fp_dec64 {n : Nat} (h : n % 2 ^ 63 ≤ 0x7ff0000000000000) : Jvm.FP.Core.decode Jvm.FP.Core.b64 n ≠ .nan := by
  have e1 : Jvm.FP.Core.Fmt.tails Jvm.FP.Core.b64 = 4503599627370496 := by decide
  have e2 : Jvm.FP.Core.Fmt.exps Jvm.FP.Core.b64 = 2048 := by decide
  unfold Jvm.FP.Core.decode Jvm.FP.Core.fieldE Jvm.FP.Core.fieldT
  rw [e1, e2]
  split
  · next h4 =>
    rw [if_pos (by omega)]
    intro h5
    cases h5
  · split <;> (intro h5; cases h5)
theorem fp_dec32 {n : Nat} (h : n % 2 ^ 31 ≤ 0x7f800000) : Jvm.FP.Core.decode Jvm.FP.Core.b32 n ≠ .nan := by
  have e1 : Jvm.FP.Core.Fmt.tails Jvm.FP.Core.b32 = 8388608 := by decide
  have e2 : Jvm.FP.Core.Fmt.exps Jvm.FP.Core.b32 = 256 := by decide
  unfold Jvm.FP.Core.decode Jvm.FP.Core.fieldE Jvm.FP.Core.fieldT
  rw [e1, e2]
  split
  · next h4 =>
    rw [if_pos (by omega)]
    intro h5
    cases h5
  · split <;> (intro h5; cases h5)
/-- a divisor is a number other than 0 -/
def fp_nz : Jvm.FP.Core.Datum → Bool
  | .fin _ d _ => decide (d ≠ 0)
  | _ => false
theorem fp_div64 : ∀ n, n < 25 → 0 < n → fp_nz (Jvm.FP.Core.decode Jvm.FP.Core.b64 (FP.i2d (nI n)).toNat) = true := by decide +kernel
theorem fp_div32 : ∀ n, n < 91 → 0 < n → fp_nz (Jvm.FP.Core.decode Jvm.FP.Core.b32 (FP.i2f (nI n)).toNat) = true := by decide +kernel
theorem fp_quo64 {x y : Jvm.FP.Core.Datum} (hx : x ≠ .nan) (hy : fp_nz y = true) : Jvm.FP.Core.encode Jvm.FP.Core.b64 (Jvm.FP.Core.quotient Jvm.FP.Core.b64 x y) % 2 ^ 63 ≤ 0x7ff0000000000000 := by
  cases y with
  | nan => cases hy
  | inf s => cases hy
  | fin t d r =>
    have hd : d ≠ 0 := by simpa [fp_nz] using hy
    cases x with
    | nan => exact absurd rfl hx
    | inf s => exact fp_inf64
    | fin s c q =>
      simp only [Jvm.FP.Core.quotient, if_neg hd]
      exact fp_rr64
theorem fp_quo32 {x y : Jvm.FP.Core.Datum} (hx : x ≠ .nan) (hy : fp_nz y = true) : Jvm.FP.Core.encode Jvm.FP.Core.b32 (Jvm.FP.Core.quotient Jvm.FP.Core.b32 x y) % 2 ^ 31 ≤ 0x7f800000 := by
  cases y with
  | nan => cases hy
  | inf s => cases hy
  | fin t d r =>
    have hd : d ≠ 0 := by simpa [fp_nz] using hy
    cases x with
    | nan => exact absurd rfl hx
    | inf s => exact fp_inf32
    | fin s c q =>
      simp only [Jvm.FP.Core.quotient, if_neg hd]
      exact fp_rr32
theorem fp_and64 {x : Nat} (h : x % 2 ^ 63 ≤ 0x7ff0000000000000) : vf_n64 (UInt64.ofNat x) := by
  unfold vf_n64
  rw [UInt64.le_iff_toNat_le, UInt64.toNat_and, show (0x7fffffffffffffff : UInt64).toNat = 2 ^ 63 - 1 by decide, Nat.and_two_pow_sub_one_eq_mod, UInt64.toNat_ofNat']
  have : (0x7ff0000000000000 : UInt64).toNat = 0x7ff0000000000000 := by decide
  rw [this]
  omega
theorem fp_and32 {x : Nat} (h : x % 2 ^ 31 ≤ 0x7f800000) : vf_n32 (UInt32.ofNat x) := by
  unfold vf_n32
  rw [UInt32.le_iff_toNat_le, UInt32.toNat_and, show (0x7fffffff : UInt32).toNat = 2 ^ 31 - 1 by decide, Nat.and_two_pow_sub_one_eq_mod, UInt32.toNat_ofNat']
  have : (0x7f800000 : UInt32).toNat = 0x7f800000 := by decide
  rw [this]
  omega
theorem fp_mod64 {x : Nat} (h : x % 2 ^ 63 ≤ 0x7ff0000000000000) : (UInt64.ofNat x).toNat % 2 ^ 63 ≤ 0x7ff0000000000000 := by
  rw [UInt64.toNat_ofNat']
  omega
theorem fp_mod32 {x : Nat} (h : x % 2 ^ 31 ≤ 0x7f800000) : (UInt32.ofNat x).toNat % 2 ^ 31 ≤ 0x7f800000 := by
  rw [UInt32.toNat_ofNat']
  omega
theorem fp_i2d (a : Int32) : Jvm.FP.Core.decode Jvm.FP.Core.b64 (FP.i2d a).toNat ≠ .nan := fp_dec64 (fp_mod64 fp_rr64)
theorem fp_i2f (a : Int32) : Jvm.FP.Core.decode Jvm.FP.Core.b32 (FP.i2f a).toNat ≠ .nan := fp_dec32 (fp_mod32 fp_rr32)
theorem fp_ddiv {a : Int32} {n : Nat} (h0 : 0 < n) (hn : n < 25) : ∃ r, ddvn (FP.i2d a) (FP.i2d (nI n)) = some r := by
  unfold ddvn
  rw [if_pos (show FP.ddiv (FP.i2d a) (FP.i2d (nI n)) &&& 0x7fffffffffffffff ≤ 0x7ff0000000000000 from fp_and64 (fp_quo64 (fp_i2d a) (fp_div64 n hn h0)))]
  exact ⟨_, rfl⟩
theorem fp_fdiv {a : Int32} {n : Nat} (h0 : 0 < n) (hn : n < 91) : ∃ r, fdvn (FP.i2f a) (FP.i2f (nI n)) = some r ∧ vf_n64 (FP.f2d r) := by
  have hq := fp_quo32 (fp_i2f a) (fp_div32 n hn h0)
  unfold fdvn
  rw [if_pos (show FP.fdiv (FP.i2f a) (FP.i2f (nI n)) &&& 0x7fffffff ≤ 0x7f800000 from fp_and32 hq)]
  refine ⟨_, rfl, ?_⟩
  have hd : Jvm.FP.Core.decode Jvm.FP.Core.b32 (FP.fdiv (FP.i2f a) (FP.i2f (nI n))).toNat ≠ .nan := fp_dec32 (fp_mod32 hq)
  unfold FP.f2d
  have hn : Jvm.FP.Core.fIsNaN (FP.fdiv (FP.i2f a) (FP.i2f (nI n))) = false := by
    unfold Jvm.FP.Core.fIsNaN Jvm.FP.Core.isNaN
    exact decide_eq_false hd
  rw [hn]
  show vf_n64 (UInt64.ofNat (Jvm.FP.Core.encode Jvm.FP.Core.b64 (Jvm.FP.Core.round Jvm.FP.Core.b64 (Jvm.FP.Core.decode Jvm.FP.Core.b32 (FP.fdiv (FP.i2f a) (FP.i2f (nI n))).toNat))))
  generalize Jvm.FP.Core.decode Jvm.FP.Core.b32 (FP.fdiv (FP.i2f a) (FP.i2f (nI n))).toNat = d at hd
  cases d with
  | nan => exact absurd rfl hd
  | inf s => exact fp_and64 fp_inf64
  | fin s c q => exact fp_and64 fp_rr64
theorem fp_zero : vf_n64 (FP.f2d 0) := by unfold vf_n64; decide +kernel
