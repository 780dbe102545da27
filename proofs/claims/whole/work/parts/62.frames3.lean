/-! WHAT THE REFERENCE LEAVES AS IT IS (printed by gen60.py) -/
theorem fm_X8_copies_L3 {k0 : Nat} {k2 : Nat} {a1 : Int32} {a3 : Int32} (hk : k2 ≠ 316 ∧ k2 ≠ 306) : ∀ (n : Nat) (y0 : Int32) (J : Mem), FO KJ (fun M => M) J (fX8_copies_L3 k0 k2 a1 a3 n y0 J) := by
  intro n
  induction n with
  | zero => intro y0 J; rw [fX8_copies_L3]; exact FO.n
  | succ n ih =>
    intro y0 J
    rw [fX8_copies_L3]
    repeat' first
      | with_reducible exact Kp.r
      | with_reducible assumption
      | with_reducible refine Kp.w ?_ (by unfold KJ; omega)
      | with_reducible refine Kp.i ?_ ?_
      | with_reducible refine FO.s1 ?_
      | with_reducible refine FO.s2 ?_
      | with_reducible refine FO.s3 ?_
      | with_reducible refine FO.a ?_ (by intro j; unfold KJ; omega)
      | with_reducible refine FO.z ?_ (by unfold KJ; omega)
      | with_reducible refine FO.tr ?_ (ih _ _)
      | with_reducible refine FO.m ?_ ?_
      | with_reducible refine FO.o2 ?_ ?_
      | with_reducible refine FO.o3 ?_ ?_
      | with_reducible refine FO.pm ?_ ?_
      | with_reducible refine FO.i ?_ ?_
      | with_reducible refine FO.b ?_
      | with_reducible refine FO.o2v ?_
      | with_reducible refine FO.p ?_
      | omega
      | intro _
theorem fm_X8_copies {k0 : Nat} {k2 : Nat} {a1 : Int32} {a3 : Int32} {J : Mem} (hk : k2 ≠ 316 ∧ k2 ≠ 306) : FO KJ (fun M => M) J (fX8_copies k0 k2 a1 a3 J) := by
  unfold fX8_copies
  repeat' first
    | with_reducible exact Kp.r
    | with_reducible assumption
    | with_reducible refine Kp.w ?_ (by unfold KJ; omega)
    | with_reducible refine Kp.i ?_ ?_
    | with_reducible refine FO.s1 ?_
    | with_reducible refine FO.s2 ?_
    | with_reducible refine FO.s3 ?_
    | with_reducible refine FO.a ?_ (by intro j; unfold KJ; omega)
    | with_reducible refine FO.z ?_ (by unfold KJ; omega)
    | with_reducible refine FO.tr ?_ (fm_X8_copies_L3 ?_ _ _ _)
    | with_reducible refine FO.m ?_ ?_
    | with_reducible refine FO.o2 ?_ ?_
    | with_reducible refine FO.o3 ?_ ?_
    | with_reducible refine FO.pm ?_ ?_
    | with_reducible refine FO.i ?_ ?_
    | with_reducible refine FO.b ?_
    | with_reducible refine FO.o2v ?_
    | with_reducible refine FO.p ?_
    | omega
    | intro _
theorem fm_X8_keeps_L21   : ∀ (n : Nat) (y0 : Int32) (J : Mem), FO KJ (fun M => M) J (fX8_keeps_L21  n y0 J) := by
  intro n
  induction n with
  | zero => intro y0 J; rw [fX8_keeps_L21]; exact FO.n
  | succ n ih =>
    intro y0 J
    rw [fX8_keeps_L21]
    repeat' first
      | with_reducible exact Kp.r
      | with_reducible assumption
      | with_reducible refine Kp.w ?_ (by unfold KJ; omega)
      | with_reducible refine Kp.i ?_ ?_
      | with_reducible refine FO.s1 ?_
      | with_reducible refine FO.s2 ?_
      | with_reducible refine FO.s3 ?_
      | with_reducible refine FO.a ?_ (by intro j; unfold KJ; omega)
      | with_reducible refine FO.z ?_ (by unfold KJ; omega)
      | with_reducible refine FO.tr ?_ (fm_X8_copies ?_)
      | with_reducible refine FO.tr ?_ (ih _ _)
      | with_reducible refine FO.m ?_ ?_
      | with_reducible refine FO.o2 ?_ ?_
      | with_reducible refine FO.o3 ?_ ?_
      | with_reducible refine FO.pm ?_ ?_
      | with_reducible refine FO.i ?_ ?_
      | with_reducible refine FO.b ?_
      | with_reducible refine FO.o2v ?_
      | with_reducible refine FO.p ?_
      | omega
      | intro _
theorem fm_X8_keeps {J : Mem}  : FO KJ (fun M => M) J (fX8_keeps J) := by
  unfold fX8_keeps
  repeat' first
    | with_reducible exact Kp.r
    | with_reducible assumption
    | with_reducible refine Kp.w ?_ (by unfold KJ; omega)
    | with_reducible refine Kp.i ?_ ?_
    | with_reducible refine FO.s1 ?_
    | with_reducible refine FO.s2 ?_
    | with_reducible refine FO.s3 ?_
    | with_reducible refine FO.a ?_ (by intro j; unfold KJ; omega)
    | with_reducible refine FO.z ?_ (by unfold KJ; omega)
    | with_reducible refine FO.tr ?_ (fm_X8_keeps_L21 _ _ _)
    | with_reducible refine FO.tr ?_ (fm_X8_copies ?_)
    | with_reducible refine FO.m ?_ ?_
    | with_reducible refine FO.o2 ?_ ?_
    | with_reducible refine FO.o3 ?_ ?_
    | with_reducible refine FO.pm ?_ ?_
    | with_reducible refine FO.i ?_ ?_
    | with_reducible refine FO.b ?_
    | with_reducible refine FO.o2v ?_
    | with_reducible refine FO.p ?_
    | omega
    | intro _
theorem fm_X8_reporters_L4 {a1 : Int32}  : ∀ (n : Nat) (y0 : Int32) (y1 : Int32) (J : Mem), FO KJ Prod.snd J (fX8_reporters_L4 a1 n y0 y1 J) := by
  intro n
  induction n with
  | zero => intro y0 y1 J; rw [fX8_reporters_L4]; exact FO.n
  | succ n ih =>
    intro y0 y1 J
    rw [fX8_reporters_L4]
    repeat' first
      | with_reducible exact Kp.r
      | with_reducible assumption
      | with_reducible refine Kp.w ?_ (by unfold KJ; omega)
      | with_reducible refine Kp.i ?_ ?_
      | with_reducible refine FO.s1 ?_
      | with_reducible refine FO.s2 ?_
      | with_reducible refine FO.s3 ?_
      | with_reducible refine FO.a ?_ (by intro j; unfold KJ; omega)
      | with_reducible refine FO.z ?_ (by unfold KJ; omega)
      | with_reducible refine FO.tr ?_ (ih _ _ _)
      | with_reducible refine FO.m ?_ ?_
      | with_reducible refine FO.o2 ?_ ?_
      | with_reducible refine FO.o3 ?_ ?_
      | with_reducible refine FO.pm ?_ ?_
      | with_reducible refine FO.i ?_ ?_
      | with_reducible refine FO.b ?_
      | with_reducible refine FO.o2v ?_
      | with_reducible refine FO.p ?_
      | omega
      | intro _
theorem fm_X8_reporters {a1 : Int32} {J : Mem}  : FO KJ Prod.snd J (fX8_reporters a1 J) := by
  unfold fX8_reporters
  repeat' first
    | with_reducible exact Kp.r
    | with_reducible assumption
    | with_reducible refine Kp.w ?_ (by unfold KJ; omega)
    | with_reducible refine Kp.i ?_ ?_
    | with_reducible refine FO.s1 ?_
    | with_reducible refine FO.s2 ?_
    | with_reducible refine FO.s3 ?_
    | with_reducible refine FO.a ?_ (by intro j; unfold KJ; omega)
    | with_reducible refine FO.z ?_ (by unfold KJ; omega)
    | with_reducible refine FO.tr ?_ (fm_X8_reporters_L4 _ _ _ _)
    | with_reducible refine FO.m ?_ ?_
    | with_reducible refine FO.o2 ?_ ?_
    | with_reducible refine FO.o3 ?_ ?_
    | with_reducible refine FO.pm ?_ ?_
    | with_reducible refine FO.i ?_ ?_
    | with_reducible refine FO.b ?_
    | with_reducible refine FO.o2v ?_
    | with_reducible refine FO.p ?_
    | omega
    | intro _
theorem fm_X8_reports {a1 : Int32} {a2 : Int32} {J : Mem}  : FO KJ Prod.snd J (fX8_reports a1 a2 J) := by
  unfold fX8_reports
  repeat' first
    | with_reducible exact Kp.r
    | with_reducible assumption
    | with_reducible refine Kp.w ?_ (by unfold KJ; omega)
    | with_reducible refine Kp.i ?_ ?_
    | with_reducible refine FO.s1 ?_
    | with_reducible refine FO.s2 ?_
    | with_reducible refine FO.s3 ?_
    | with_reducible refine FO.a ?_ (by intro j; unfold KJ; omega)
    | with_reducible refine FO.z ?_ (by unfold KJ; omega)
    | with_reducible refine FO.tr ?_ (fm_X8_keeps)
    | with_reducible refine FO.tr ?_ (fm_X8_reporters)
    | with_reducible refine FO.m ?_ ?_
    | with_reducible refine FO.o2 ?_ ?_
    | with_reducible refine FO.o3 ?_ ?_
    | with_reducible refine FO.pm ?_ ?_
    | with_reducible refine FO.i ?_ ?_
    | with_reducible refine FO.b ?_
    | with_reducible refine FO.o2v ?_
    | with_reducible refine FO.p ?_
    | omega
    | intro _
theorem fm_X8_tells_L101 {a3 : Int32} {a2 : Int32} {a1 : Int32}  : ∀ (n : Nat) (y0 : Int32) (y1 : Int32) (J : Mem), FO KJ Prod.snd J (fX8_tells_L101 a3 a2 a1 n y0 y1 J) := by
  intro n
  induction n with
  | zero => intro y0 y1 J; rw [fX8_tells_L101]; exact FO.n
  | succ n ih =>
    intro y0 y1 J
    rw [fX8_tells_L101]
    repeat' first
      | with_reducible exact Kp.r
      | with_reducible assumption
      | with_reducible refine Kp.w ?_ (by unfold KJ; omega)
      | with_reducible refine Kp.i ?_ ?_
      | with_reducible refine FO.s1 ?_
      | with_reducible refine FO.s2 ?_
      | with_reducible refine FO.s3 ?_
      | with_reducible refine FO.a ?_ (by intro j; unfold KJ; omega)
      | with_reducible refine FO.z ?_ (by unfold KJ; omega)
      | with_reducible refine FO.tr ?_ (ih _ _ _)
      | with_reducible refine FO.m ?_ ?_
      | with_reducible refine FO.o2 ?_ ?_
      | with_reducible refine FO.o3 ?_ ?_
      | with_reducible refine FO.pm ?_ ?_
      | with_reducible refine FO.i ?_ ?_
      | with_reducible refine FO.b ?_
      | with_reducible refine FO.o2v ?_
      | with_reducible refine FO.p ?_
      | omega
      | intro _
theorem fm_X8_tells {a1 : Int32} {J : Mem}  : FO KJ (fun M => M) J (fX8_tells a1 J) := by
  unfold fX8_tells
  repeat' first
    | with_reducible exact Kp.r
    | with_reducible assumption
    | with_reducible refine Kp.w ?_ (by unfold KJ; omega)
    | with_reducible refine Kp.i ?_ ?_
    | with_reducible refine FO.s1 ?_
    | with_reducible refine FO.s2 ?_
    | with_reducible refine FO.s3 ?_
    | with_reducible refine FO.a ?_ (by intro j; unfold KJ; omega)
    | with_reducible refine FO.z ?_ (by unfold KJ; omega)
    | with_reducible refine FO.tr ?_ (fm_X8_tells_L101 _ _ _ _)
    | with_reducible refine FO.m ?_ ?_
    | with_reducible refine FO.o2 ?_ ?_
    | with_reducible refine FO.o3 ?_ ?_
    | with_reducible refine FO.pm ?_ ?_
    | with_reducible refine FO.i ?_ ?_
    | with_reducible refine FO.b ?_
    | with_reducible refine FO.o2v ?_
    | with_reducible refine FO.p ?_
    | omega
    | intro _
theorem fm_X8_strikes_L2 {a1 : Int32}  : ∀ (n : Nat) (y0 : Int32) (J : Mem), FO KJ (fun M => M) J (fX8_strikes_L2 a1 n y0 J) := by
  intro n
  induction n with
  | zero => intro y0 J; rw [fX8_strikes_L2]; exact FO.n
  | succ n ih =>
    intro y0 J
    rw [fX8_strikes_L2]
    repeat' first
      | with_reducible exact Kp.r
      | with_reducible assumption
      | with_reducible refine Kp.w ?_ (by unfold KJ; omega)
      | with_reducible refine Kp.i ?_ ?_
      | with_reducible refine FO.s1 ?_
      | with_reducible refine FO.s2 ?_
      | with_reducible refine FO.s3 ?_
      | with_reducible refine FO.a ?_ (by intro j; unfold KJ; omega)
      | with_reducible refine FO.z ?_ (by unfold KJ; omega)
      | with_reducible refine FO.tr ?_ (ih _ _)
      | with_reducible refine FO.m ?_ ?_
      | with_reducible refine FO.o2 ?_ ?_
      | with_reducible refine FO.o3 ?_ ?_
      | with_reducible refine FO.pm ?_ ?_
      | with_reducible refine FO.i ?_ ?_
      | with_reducible refine FO.b ?_
      | with_reducible refine FO.o2v ?_
      | with_reducible refine FO.p ?_
      | omega
      | intro _
theorem fm_X8_strikes {a1 : Int32} {J : Mem}  : FO KJ (fun M => M) J (fX8_strikes a1 J) := by
  unfold fX8_strikes
  repeat' first
    | with_reducible exact Kp.r
    | with_reducible assumption
    | with_reducible refine Kp.w ?_ (by unfold KJ; omega)
    | with_reducible refine Kp.i ?_ ?_
    | with_reducible refine FO.s1 ?_
    | with_reducible refine FO.s2 ?_
    | with_reducible refine FO.s3 ?_
    | with_reducible refine FO.a ?_ (by intro j; unfold KJ; omega)
    | with_reducible refine FO.z ?_ (by unfold KJ; omega)
    | with_reducible refine FO.tr ?_ (fm_X8_strikes_L2 _ _ _)
    | with_reducible refine FO.m ?_ ?_
    | with_reducible refine FO.o2 ?_ ?_
    | with_reducible refine FO.o3 ?_ ?_
    | with_reducible refine FO.pm ?_ ?_
    | with_reducible refine FO.i ?_ ?_
    | with_reducible refine FO.b ?_
    | with_reducible refine FO.o2v ?_
    | with_reducible refine FO.p ?_
    | omega
    | intro _
theorem fm_X8_agrees_L2 {a1 : Int32}  : ∀ (n : Nat) (y0 : Int32) (J : Mem), FO KJ (fun M => M) J (fX8_agrees_L2 a1 n y0 J) := by
  intro n
  induction n with
  | zero => intro y0 J; rw [fX8_agrees_L2]; exact FO.n
  | succ n ih =>
    intro y0 J
    rw [fX8_agrees_L2]
    repeat' first
      | with_reducible exact Kp.r
      | with_reducible assumption
      | with_reducible refine Kp.w ?_ (by unfold KJ; omega)
      | with_reducible refine Kp.i ?_ ?_
      | with_reducible refine FO.s1 ?_
      | with_reducible refine FO.s2 ?_
      | with_reducible refine FO.s3 ?_
      | with_reducible refine FO.a ?_ (by intro j; unfold KJ; omega)
      | with_reducible refine FO.z ?_ (by unfold KJ; omega)
      | with_reducible refine FO.tr ?_ (ih _ _)
      | with_reducible refine FO.m ?_ ?_
      | with_reducible refine FO.o2 ?_ ?_
      | with_reducible refine FO.o3 ?_ ?_
      | with_reducible refine FO.pm ?_ ?_
      | with_reducible refine FO.i ?_ ?_
      | with_reducible refine FO.b ?_
      | with_reducible refine FO.o2v ?_
      | with_reducible refine FO.p ?_
      | omega
      | intro _
theorem fm_X8_agrees_L74   : ∀ (n : Nat) (y0 : Int32) (J : Mem), FO KJ (fun M => M) J (fX8_agrees_L74  n y0 J) := by
  intro n
  induction n with
  | zero => intro y0 J; rw [fX8_agrees_L74]; exact FO.n
  | succ n ih =>
    intro y0 J
    rw [fX8_agrees_L74]
    repeat' first
      | with_reducible exact Kp.r
      | with_reducible assumption
      | with_reducible refine Kp.w ?_ (by unfold KJ; omega)
      | with_reducible refine Kp.i ?_ ?_
      | with_reducible refine FO.s1 ?_
      | with_reducible refine FO.s2 ?_
      | with_reducible refine FO.s3 ?_
      | with_reducible refine FO.a ?_ (by intro j; unfold KJ; omega)
      | with_reducible refine FO.z ?_ (by unfold KJ; omega)
      | with_reducible refine FO.tr ?_ (ih _ _)
      | with_reducible refine FO.m ?_ ?_
      | with_reducible refine FO.o2 ?_ ?_
      | with_reducible refine FO.o3 ?_ ?_
      | with_reducible refine FO.pm ?_ ?_
      | with_reducible refine FO.i ?_ ?_
      | with_reducible refine FO.b ?_
      | with_reducible refine FO.o2v ?_
      | with_reducible refine FO.p ?_
      | omega
      | intro _
theorem fm_X8_agrees {a1 : Int32} {J : Mem}  : FO KJ (fun M => M) J (fX8_agrees a1 J) := by
  unfold fX8_agrees
  repeat' first
    | with_reducible exact Kp.r
    | with_reducible assumption
    | with_reducible refine Kp.w ?_ (by unfold KJ; omega)
    | with_reducible refine Kp.i ?_ ?_
    | with_reducible refine FO.s1 ?_
    | with_reducible refine FO.s2 ?_
    | with_reducible refine FO.s3 ?_
    | with_reducible refine FO.a ?_ (by intro j; unfold KJ; omega)
    | with_reducible refine FO.z ?_ (by unfold KJ; omega)
    | with_reducible refine FO.tr ?_ (fm_X8_agrees_L2 _ _ _)
    | with_reducible refine FO.tr ?_ (fm_X8_agrees_L74 _ _ _)
    | with_reducible refine FO.m ?_ ?_
    | with_reducible refine FO.o2 ?_ ?_
    | with_reducible refine FO.o3 ?_ ?_
    | with_reducible refine FO.pm ?_ ?_
    | with_reducible refine FO.i ?_ ?_
    | with_reducible refine FO.b ?_
    | with_reducible refine FO.o2v ?_
    | with_reducible refine FO.p ?_
    | omega
    | intro _
theorem fm_X8_dragsOff_L4 {a1 : Int32}  : ∀ (n : Nat) (y0 : Int32) (y1 : Int32) (J : Mem), FO KJ Prod.snd J (fX8_dragsOff_L4 a1 n y0 y1 J) := by
  intro n
  induction n with
  | zero => intro y0 y1 J; rw [fX8_dragsOff_L4]; exact FO.n
  | succ n ih =>
    intro y0 y1 J
    rw [fX8_dragsOff_L4]
    repeat' first
      | with_reducible exact Kp.r
      | with_reducible assumption
      | with_reducible refine Kp.w ?_ (by unfold KJ; omega)
      | with_reducible refine Kp.i ?_ ?_
      | with_reducible refine FO.s1 ?_
      | with_reducible refine FO.s2 ?_
      | with_reducible refine FO.s3 ?_
      | with_reducible refine FO.a ?_ (by intro j; unfold KJ; omega)
      | with_reducible refine FO.z ?_ (by unfold KJ; omega)
      | with_reducible refine FO.tr ?_ (ih _ _ _)
      | with_reducible refine FO.m ?_ ?_
      | with_reducible refine FO.o2 ?_ ?_
      | with_reducible refine FO.o3 ?_ ?_
      | with_reducible refine FO.pm ?_ ?_
      | with_reducible refine FO.i ?_ ?_
      | with_reducible refine FO.b ?_
      | with_reducible refine FO.o2v ?_
      | with_reducible refine FO.p ?_
      | omega
      | intro _
theorem fm_X8_dragsOff {a1 : Int32} {J : Mem}  : FO KJ Prod.snd J (fX8_dragsOff a1 J) := by
  unfold fX8_dragsOff
  repeat' first
    | with_reducible exact Kp.r
    | with_reducible assumption
    | with_reducible refine Kp.w ?_ (by unfold KJ; omega)
    | with_reducible refine Kp.i ?_ ?_
    | with_reducible refine FO.s1 ?_
    | with_reducible refine FO.s2 ?_
    | with_reducible refine FO.s3 ?_
    | with_reducible refine FO.a ?_ (by intro j; unfold KJ; omega)
    | with_reducible refine FO.z ?_ (by unfold KJ; omega)
    | with_reducible refine FO.tr ?_ (fm_X8_dragsOff_L4 _ _ _ _)
    | with_reducible refine FO.m ?_ ?_
    | with_reducible refine FO.o2 ?_ ?_
    | with_reducible refine FO.o3 ?_ ?_
    | with_reducible refine FO.pm ?_ ?_
    | with_reducible refine FO.i ?_ ?_
    | with_reducible refine FO.b ?_
    | with_reducible refine FO.o2v ?_
    | with_reducible refine FO.p ?_
    | omega
    | intro _
theorem fm_X8_newHour_L16   : ∀ (n : Nat) (y0 : Int32) (J : Mem), FO KJ (fun M => M) J (fX8_newHour_L16  n y0 J) := by
  intro n
  induction n with
  | zero => intro y0 J; rw [fX8_newHour_L16]; exact FO.n
  | succ n ih =>
    intro y0 J
    rw [fX8_newHour_L16]
    repeat' first
      | with_reducible exact Kp.r
      | with_reducible assumption
      | with_reducible refine Kp.w ?_ (by unfold KJ; omega)
      | with_reducible refine Kp.i ?_ ?_
      | with_reducible refine FO.s1 ?_
      | with_reducible refine FO.s2 ?_
      | with_reducible refine FO.s3 ?_
      | with_reducible refine FO.a ?_ (by intro j; unfold KJ; omega)
      | with_reducible refine FO.z ?_ (by unfold KJ; omega)
      | with_reducible refine FO.tr ?_ (ih _ _)
      | with_reducible refine FO.m ?_ ?_
      | with_reducible refine FO.o2 ?_ ?_
      | with_reducible refine FO.o3 ?_ ?_
      | with_reducible refine FO.pm ?_ ?_
      | with_reducible refine FO.i ?_ ?_
      | with_reducible refine FO.b ?_
      | with_reducible refine FO.o2v ?_
      | with_reducible refine FO.p ?_
      | omega
      | intro _
theorem fm_X8_newHour_L72 {a1 : Int32}  : ∀ (n : Nat) (y0 : Int32) (J : Mem), FO KJ (fun M => M) J (fX8_newHour_L72 a1 n y0 J) := by
  intro n
  induction n with
  | zero => intro y0 J; rw [fX8_newHour_L72]; exact FO.n
  | succ n ih =>
    intro y0 J
    rw [fX8_newHour_L72]
    repeat' first
      | with_reducible exact Kp.r
      | with_reducible assumption
      | with_reducible refine Kp.w ?_ (by unfold KJ; omega)
      | with_reducible refine Kp.i ?_ ?_
      | with_reducible refine FO.s1 ?_
      | with_reducible refine FO.s2 ?_
      | with_reducible refine FO.s3 ?_
      | with_reducible refine FO.a ?_ (by intro j; unfold KJ; omega)
      | with_reducible refine FO.z ?_ (by unfold KJ; omega)
      | with_reducible refine FO.tr ?_ (ih _ _)
      | with_reducible refine FO.m ?_ ?_
      | with_reducible refine FO.o2 ?_ ?_
      | with_reducible refine FO.o3 ?_ ?_
      | with_reducible refine FO.pm ?_ ?_
      | with_reducible refine FO.i ?_ ?_
      | with_reducible refine FO.b ?_
      | with_reducible refine FO.o2v ?_
      | with_reducible refine FO.p ?_
      | omega
      | intro _
