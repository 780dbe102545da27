/-! WHAT THE REFERENCE LEAVES AS IT IS, MORE (printed by gen60.py) -/
theorem fm_X8_newHour {J : Mem} : FO KJ Prod.snd J (fX8_newHour J) := by
  unfold fX8_newHour
  refine FO.b fun x1 => ?_
  refine FO.m (FO.i ?_ (FO.s1 Kp.r)) fun J7 h7 => ?_
  · refine FO.m (fm_X8_newHour_L16 _ _ _) fun J4 h4 => ?_
    exact FO.b fun x5 => FO.m (FO.a h4 (by intro j; unfold KJ; omega)) fun J6 h6 => FO.s1 h6
  · refine FO.b fun x8 => FO.b fun x9 => ?_
    refine FO.m (FO.tr h7 (fm_X8_newHour_L72 _ _ _)) fun J11 h11 => ?_
    exact FO.b fun x12 => FO.m (FO.a h11 (by intro j; unfold KJ; omega)) fun J13 h13 => FO.s2 h13
theorem fm_X8_ends_L100 {a5 : Int32} {a4 : Int32}  : ∀ (n : Nat) (y0 : Int32) (J : Mem), FO KJ (fun M => M) J (fX8_ends_L100 a5 a4 n y0 J) := by
  intro n
  induction n with
  | zero => intro y0 J; rw [fX8_ends_L100]; exact FO.n
  | succ n ih =>
    intro y0 J
    rw [fX8_ends_L100]
    repeat' first
      | with_reducible exact Kp.r
      | with_reducible assumption
      | with_reducible refine Kp.w ?_ (by unfold KJ; omega)
      | with_reducible refine Kp.i ?_ ?_
      | with_reducible refine FO.s1 ?_
      | with_reducible refine FO.s2 ?_
      | with_reducible refine FO.s3 ?_
      | with_reducible refine FO.a ?_ (by intro j; unfold KJ; omega)
      | with_reducible refine FO.z ?_ (by unfold KJ; omega)
      | with_reducible refine FO.tr ?_ (ih _ _)
      | with_reducible refine FO.m ?_ ?_
      | with_reducible refine FO.o2 ?_ ?_
      | with_reducible refine FO.o3 ?_ ?_
      | with_reducible refine FO.pm ?_ ?_
      | with_reducible refine FO.i ?_ ?_
      | with_reducible refine FO.b ?_
      | with_reducible refine FO.o2v ?_
      | with_reducible refine FO.p ?_
      | omega
      | intro _
theorem fm_X8_sets {a1 : Int32} {a2 : Int32} {a3 : Int32} {J : Mem}  : FO KJ (fun M => M) J (fX8_sets a1 a2 a3 J) := by
  unfold fX8_sets
  repeat' first
    | with_reducible exact Kp.r
    | with_reducible assumption
    | with_reducible refine Kp.w ?_ (by unfold KJ; omega)
    | with_reducible refine Kp.i ?_ ?_
    | with_reducible refine FO.s1 ?_
    | with_reducible refine FO.s2 ?_
    | with_reducible refine FO.s3 ?_
    | with_reducible refine FO.a ?_ (by intro j; unfold KJ; omega)
    | with_reducible refine FO.z ?_ (by unfold KJ; omega)
    | with_reducible refine FO.m ?_ ?_
    | with_reducible refine FO.o2 ?_ ?_
    | with_reducible refine FO.o3 ?_ ?_
    | with_reducible refine FO.pm ?_ ?_
    | with_reducible refine FO.i ?_ ?_
    | with_reducible refine FO.b ?_
    | with_reducible refine FO.o2v ?_
    | with_reducible refine FO.p ?_
    | omega
    | intro _
theorem fm_X8_keepsLevel {a1 : Int32} {J : Mem}  : FO KJ (fun M => M) J (fX8_keepsLevel a1 J) := by
  unfold fX8_keepsLevel
  repeat' first
    | with_reducible exact Kp.r
    | with_reducible assumption
    | with_reducible refine Kp.w ?_ (by unfold KJ; omega)
    | with_reducible refine Kp.i ?_ ?_
    | with_reducible refine FO.s1 ?_
    | with_reducible refine FO.s2 ?_
    | with_reducible refine FO.s3 ?_
    | with_reducible refine FO.a ?_ (by intro j; unfold KJ; omega)
    | with_reducible refine FO.z ?_ (by unfold KJ; omega)
    | with_reducible refine FO.tr ?_ (fm_X8_sets)
    | with_reducible refine FO.m ?_ ?_
    | with_reducible refine FO.o2 ?_ ?_
    | with_reducible refine FO.o3 ?_ ?_
    | with_reducible refine FO.pm ?_ ?_
    | with_reducible refine FO.i ?_ ?_
    | with_reducible refine FO.b ?_
    | with_reducible refine FO.o2v ?_
    | with_reducible refine FO.p ?_
    | omega
    | intro _
theorem fm_X8_laysValues_L2 {a1 : Int32}  : ∀ (n : Nat) (y0 : Int32) (J : Mem), FO KJ (fun M => M) J (fX8_laysValues_L2 a1 n y0 J) := by
  intro n
  induction n with
  | zero => intro y0 J; rw [fX8_laysValues_L2]; exact FO.n
  | succ n ih =>
    intro y0 J
    rw [fX8_laysValues_L2]
    repeat' first
      | with_reducible exact Kp.r
      | with_reducible assumption
      | with_reducible refine Kp.w ?_ (by unfold KJ; omega)
      | with_reducible refine Kp.i ?_ ?_
      | with_reducible refine FO.s1 ?_
      | with_reducible refine FO.s2 ?_
      | with_reducible refine FO.s3 ?_
      | with_reducible refine FO.a ?_ (by intro j; unfold KJ; omega)
      | with_reducible refine FO.z ?_ (by unfold KJ; omega)
      | with_reducible refine FO.tr ?_ (ih _ _)
      | with_reducible refine FO.m ?_ ?_
      | with_reducible refine FO.o2 ?_ ?_
      | with_reducible refine FO.o3 ?_ ?_
      | with_reducible refine FO.pm ?_ ?_
      | with_reducible refine FO.i ?_ ?_
      | with_reducible refine FO.b ?_
      | with_reducible refine FO.o2v ?_
      | with_reducible refine FO.p ?_
      | omega
      | intro _
theorem fm_X8_laysValues {a1 : Int32} {J : Mem}  : FO KJ (fun M => M) J (fX8_laysValues a1 J) := by
  unfold fX8_laysValues
  repeat' first
    | with_reducible exact Kp.r
    | with_reducible assumption
    | with_reducible refine Kp.w ?_ (by unfold KJ; omega)
    | with_reducible refine Kp.i ?_ ?_
    | with_reducible refine FO.s1 ?_
    | with_reducible refine FO.s2 ?_
    | with_reducible refine FO.s3 ?_
    | with_reducible refine FO.a ?_ (by intro j; unfold KJ; omega)
    | with_reducible refine FO.z ?_ (by unfold KJ; omega)
    | with_reducible refine FO.tr ?_ (fm_X8_laysValues_L2 _ _ _)
    | with_reducible refine FO.m ?_ ?_
    | with_reducible refine FO.o2 ?_ ?_
    | with_reducible refine FO.o3 ?_ ?_
    | with_reducible refine FO.pm ?_ ?_
    | with_reducible refine FO.i ?_ ?_
    | with_reducible refine FO.b ?_
    | with_reducible refine FO.o2v ?_
    | with_reducible refine FO.p ?_
    | omega
    | intro _
theorem fm_X8_takesOut_L5 {a1 : Int32} : ∀ (n : Nat) (y0 : Int32) (J : Mem), FO KJ (fun M => M) J (fX8_takesOut_L5 a1 n y0 J) := by
  intro n
  induction n with
  | zero => intro y0 J; rw [fX8_takesOut_L5]; exact FO.n
  | succ n ih =>
    intro y0 J
    rw [fX8_takesOut_L5]
    refine FO.b fun x2 => FO.i (FO.s1 Kp.r) (FO.b fun x7 => FO.b fun x8 => ?_)
    refine FO.m (FO.i (FO.s1 Kp.r) ?_) fun J19 h19 => FO.tr h19 (ih _ _)
    refine FO.b fun x9 => FO.m fm_X8_sets fun J10 h10 => ?_
    refine FO.b fun x11 => FO.m (FO.tr h10 fm_X8_sets) fun J12 h12 => ?_
    refine FO.m (FO.tr h12 fm_X8_laysValues) fun J13 h13 => ?_
    refine FO.b fun x14 => FO.m (FO.tr h13 fm_X8_tells) fun J15 h15 => ?_
    refine FO.m (FO.tr h15 fm_X8_keepsLevel) fun J16 h16 => ?_
    exact FO.b fun x17 => FO.m (FO.a h16 (by intro j; unfold KJ; omega)) fun J18 h18 => FO.s1 h18
theorem fm_X8_takesOut {a1 : Int32} {J : Mem}  : FO KJ (fun M => M) J (fX8_takesOut a1 J) := by
  unfold fX8_takesOut
  repeat' first
    | with_reducible exact Kp.r
    | with_reducible assumption
    | with_reducible refine Kp.w ?_ (by unfold KJ; omega)
    | with_reducible refine Kp.i ?_ ?_
    | with_reducible refine FO.s1 ?_
    | with_reducible refine FO.s2 ?_
    | with_reducible refine FO.s3 ?_
    | with_reducible refine FO.a ?_ (by intro j; unfold KJ; omega)
    | with_reducible refine FO.z ?_ (by unfold KJ; omega)
    | with_reducible refine FO.tr ?_ (fm_X8_takesOut_L5 _ _ _)
    | with_reducible refine FO.m ?_ ?_
    | with_reducible refine FO.o2 ?_ ?_
    | with_reducible refine FO.o3 ?_ ?_
    | with_reducible refine FO.pm ?_ ?_
    | with_reducible refine FO.i ?_ ?_
    | with_reducible refine FO.b ?_
    | with_reducible refine FO.o2v ?_
    | with_reducible refine FO.p ?_
    | omega
    | intro _
theorem fm_X8_ends_L169 {a4 : Int32}  : ∀ (n : Nat) (y0 : Int32) (J : Mem), FO KJ (fun M => M) J (fX8_ends_L169 a4 n y0 J) := by
  intro n
  induction n with
  | zero => intro y0 J; rw [fX8_ends_L169]; exact FO.n
  | succ n ih =>
    intro y0 J
    rw [fX8_ends_L169]
    repeat' first
      | with_reducible exact Kp.r
      | with_reducible assumption
      | with_reducible refine Kp.w ?_ (by unfold KJ; omega)
      | with_reducible refine Kp.i ?_ ?_
      | with_reducible refine FO.s1 ?_
      | with_reducible refine FO.s2 ?_
      | with_reducible refine FO.s3 ?_
      | with_reducible refine FO.a ?_ (by intro j; unfold KJ; omega)
      | with_reducible refine FO.z ?_ (by unfold KJ; omega)
      | with_reducible refine FO.tr ?_ (ih _ _)
      | with_reducible refine FO.m ?_ ?_
      | with_reducible refine FO.o2 ?_ ?_
      | with_reducible refine FO.o3 ?_ ?_
      | with_reducible refine FO.pm ?_ ?_
      | with_reducible refine FO.i ?_ ?_
      | with_reducible refine FO.b ?_
      | with_reducible refine FO.o2v ?_
      | with_reducible refine FO.p ?_
      | omega
      | intro _
theorem fm_X8_ends {J : Mem} : FO KJ Prod.snd J (fX8_ends J) := by
  unfold fX8_ends
  refine FO.o2 fm_X8_reporters fun x1 J2 h2 => ?_
  refine FO.o2 (FO.tr h2 fm_X8_reporters) fun x3 J4 h4 => ?_
  refine FO.o2 (FO.tr h4 fm_X8_reporters) fun x5 J6 h6 => ?_
  refine FO.m (FO.tr h6 fm_X8_tells) fun J7 h7 => ?_
  refine FO.o2 (FO.i (FO.s2 h7) ?_) fun x12 J13 h13 => ?_
  · refine FO.m (FO.tr h7 fm_X8_strikes) fun J8 h8 => ?_
    refine FO.m (FO.tr h8 fm_X8_agrees) fun J9 h9 => ?_
    exact FO.o2 (FO.tr h9 fm_X8_dragsOff) fun x10 J11 h11 => FO.s2 h11
  · refine FO.o2 (FO.tr h13 fm_X8_newHour) fun x14 J15 h15 => ?_
    refine FO.b fun x16 => FO.m (FO.a h15 (by intro j; unfold KJ; omega)) fun J17 h17 => ?_
    refine FO.m (FO.a h17 (by intro j; unfold KJ; omega)) fun J18 h18 => ?_
    refine FO.m (FO.a h18 (by intro j; unfold KJ; omega)) fun J19 h19 => ?_
    refine FO.m (FO.a h19 (by intro j; unfold KJ; omega)) fun J20 h20 => ?_
    refine FO.m (FO.tr h20 (fm_X8_ends_L100 _ _ _)) fun J25 h25 => ?_
    refine FO.b fun x26 => FO.m (FO.tr h25 fm_X8_keepsLevel) fun J27 h27 => ?_
    refine FO.m (FO.tr h27 fm_X8_takesOut) fun J28 h28 => ?_
    refine FO.m (FO.tr h28 (fm_X8_ends_L169 _ _ _)) fun J31 h31 => ?_
    exact FO.b fun x32 => FO.s2 h31
theorem fm_X8_endsHour {J : Mem}  : FO KJ Prod.snd J (fX8_endsHour J) := by
  unfold fX8_endsHour
  repeat' first
    | with_reducible exact Kp.r
    | with_reducible assumption
    | with_reducible refine Kp.w ?_ (by unfold KJ; omega)
    | with_reducible refine Kp.i ?_ ?_
    | with_reducible refine FO.s1 ?_
    | with_reducible refine FO.s2 ?_
    | with_reducible refine FO.s3 ?_
    | with_reducible refine FO.a ?_ (by intro j; unfold KJ; omega)
    | with_reducible refine FO.z ?_ (by unfold KJ; omega)
    | with_reducible refine FO.tr ?_ (fm_X8_keeps)
    | with_reducible refine FO.tr ?_ (fm_X8_ends)
    | with_reducible refine FO.m ?_ ?_
    | with_reducible refine FO.o2 ?_ ?_
    | with_reducible refine FO.o3 ?_ ?_
    | with_reducible refine FO.pm ?_ ?_
    | with_reducible refine FO.i ?_ ?_
    | with_reducible refine FO.b ?_
    | with_reducible refine FO.o2v ?_
    | with_reducible refine FO.p ?_
    | omega
    | intro _
theorem fm_X8_storms_L16 {a4 : Int32} {a1 : Int32} {a2 : Int32} {a3 : Int32}  : ∀ (n : Nat) (y0 : Int32) (J : Mem), FO KJ (fun M => M) J (fX8_storms_L16 a4 a1 a2 a3 n y0 J) := by
  intro n
  induction n with
  | zero => intro y0 J; rw [fX8_storms_L16]; exact FO.n
  | succ n ih =>
    intro y0 J
    rw [fX8_storms_L16]
    repeat' first
      | with_reducible exact Kp.r
      | with_reducible assumption
      | with_reducible refine Kp.w ?_ (by unfold KJ; omega)
      | with_reducible refine Kp.i ?_ ?_
      | with_reducible refine FO.s1 ?_
      | with_reducible refine FO.s2 ?_
      | with_reducible refine FO.s3 ?_
      | with_reducible refine FO.a ?_ (by intro j; unfold KJ; omega)
      | with_reducible refine FO.z ?_ (by unfold KJ; omega)
      | with_reducible refine FO.tr ?_ (ih _ _)
      | with_reducible refine FO.m ?_ ?_
      | with_reducible refine FO.o2 ?_ ?_
      | with_reducible refine FO.o3 ?_ ?_
      | with_reducible refine FO.pm ?_ ?_
      | with_reducible refine FO.i ?_ ?_
      | with_reducible refine FO.b ?_
      | with_reducible refine FO.o2v ?_
      | with_reducible refine FO.p ?_
      | omega
      | intro _
theorem fm_X8_suspects {a1 : Int32} {J : Mem}  : FO KJ (fun M => M) J (fX8_suspects a1 J) := by
  unfold fX8_suspects
  repeat' first
    | with_reducible exact Kp.r
    | with_reducible assumption
    | with_reducible refine Kp.w ?_ (by unfold KJ; omega)
    | with_reducible refine Kp.i ?_ ?_
    | with_reducible refine FO.s1 ?_
    | with_reducible refine FO.s2 ?_
    | with_reducible refine FO.s3 ?_
    | with_reducible refine FO.a ?_ (by intro j; unfold KJ; omega)
    | with_reducible refine FO.z ?_ (by unfold KJ; omega)
    | with_reducible refine FO.m ?_ ?_
    | with_reducible refine FO.o2 ?_ ?_
    | with_reducible refine FO.o3 ?_ ?_
    | with_reducible refine FO.pm ?_ ?_
    | with_reducible refine FO.i ?_ ?_
    | with_reducible refine FO.b ?_
    | with_reducible refine FO.o2v ?_
    | with_reducible refine FO.p ?_
    | omega
    | intro _
theorem fm_X8_storms_L112 {a5 : Int32}  : ∀ (n : Nat) (y0 : Int32) (J : Mem), FO KJ (fun M => M) J (fX8_storms_L112 a5 n y0 J) := by
  intro n
  induction n with
  | zero => intro y0 J; rw [fX8_storms_L112]; exact FO.n
  | succ n ih =>
    intro y0 J
    rw [fX8_storms_L112]
    repeat' first
      | with_reducible exact Kp.r
      | with_reducible assumption
      | with_reducible refine Kp.w ?_ (by unfold KJ; omega)
      | with_reducible refine Kp.i ?_ ?_
      | with_reducible refine FO.s1 ?_
      | with_reducible refine FO.s2 ?_
      | with_reducible refine FO.s3 ?_
      | with_reducible refine FO.a ?_ (by intro j; unfold KJ; omega)
      | with_reducible refine FO.z ?_ (by unfold KJ; omega)
      | with_reducible refine FO.tr ?_ (fm_X8_suspects)
      | with_reducible refine FO.tr ?_ (ih _ _)
      | with_reducible refine FO.m ?_ ?_
      | with_reducible refine FO.o2 ?_ ?_
      | with_reducible refine FO.o3 ?_ ?_
      | with_reducible refine FO.pm ?_ ?_
      | with_reducible refine FO.i ?_ ?_
      | with_reducible refine FO.b ?_
      | with_reducible refine FO.o2v ?_
      | with_reducible refine FO.p ?_
      | omega
      | intro _
theorem fm_X8_storms {a1 : Int32} {a2 : Int32} {a3 : Int32} {J : Mem}  : FO KJ Prod.snd J (fX8_storms a1 a2 a3 J) := by
  unfold fX8_storms
  repeat' first
    | with_reducible exact Kp.r
    | with_reducible assumption
    | with_reducible refine Kp.w ?_ (by unfold KJ; omega)
    | with_reducible refine Kp.i ?_ ?_
    | with_reducible refine FO.s1 ?_
    | with_reducible refine FO.s2 ?_
    | with_reducible refine FO.s3 ?_
    | with_reducible refine FO.a ?_ (by intro j; unfold KJ; omega)
    | with_reducible refine FO.z ?_ (by unfold KJ; omega)
    | with_reducible refine FO.tr ?_ (fm_X8_keeps)
    | with_reducible refine FO.tr ?_ (fm_X8_storms_L16 _ _ _)
    | with_reducible refine FO.tr ?_ (fm_X8_storms_L112 _ _ _)
    | with_reducible refine FO.m ?_ ?_
    | with_reducible refine FO.o2 ?_ ?_
    | with_reducible refine FO.o3 ?_ ?_
    | with_reducible refine FO.pm ?_ ?_
    | with_reducible refine FO.i ?_ ?_
    | with_reducible refine FO.b ?_
    | with_reducible refine FO.o2v ?_
    | with_reducible refine FO.p ?_
    | omega
    | intro _
theorem fm_X8_refused {a1 : Int32} {J : Mem}  : FO KJ Prod.snd J (fX8_refused a1 J) := by
  unfold fX8_refused
  repeat' first
    | with_reducible exact Kp.r
    | with_reducible assumption
    | with_reducible refine Kp.w ?_ (by unfold KJ; omega)
    | with_reducible refine Kp.i ?_ ?_
    | with_reducible refine FO.s1 ?_
    | with_reducible refine FO.s2 ?_
    | with_reducible refine FO.s3 ?_
    | with_reducible refine FO.a ?_ (by intro j; unfold KJ; omega)
    | with_reducible refine FO.z ?_ (by unfold KJ; omega)
    | with_reducible refine FO.m ?_ ?_
    | with_reducible refine FO.o2 ?_ ?_
    | with_reducible refine FO.o3 ?_ ?_
    | with_reducible refine FO.pm ?_ ?_
    | with_reducible refine FO.i ?_ ?_
    | with_reducible refine FO.b ?_
    | with_reducible refine FO.o2v ?_
    | with_reducible refine FO.p ?_
    | omega
    | intro _
theorem fm_X8_renews {a1 : Int32} {J : Mem}  : FO KJ (fun M => M) J (fX8_renews a1 J) := by
  unfold fX8_renews
  repeat' first
    | with_reducible exact Kp.r
    | with_reducible assumption
    | with_reducible refine Kp.w ?_ (by unfold KJ; omega)
    | with_reducible refine Kp.i ?_ ?_
    | with_reducible refine FO.s1 ?_
    | with_reducible refine FO.s2 ?_
    | with_reducible refine FO.s3 ?_
    | with_reducible refine FO.a ?_ (by intro j; unfold KJ; omega)
    | with_reducible refine FO.z ?_ (by unfold KJ; omega)
    | with_reducible refine FO.m ?_ ?_
    | with_reducible refine FO.o2 ?_ ?_
    | with_reducible refine FO.o3 ?_ ?_
    | with_reducible refine FO.pm ?_ ?_
    | with_reducible refine FO.i ?_ ?_
    | with_reducible refine FO.b ?_
    | with_reducible refine FO.o2v ?_
    | with_reducible refine FO.p ?_
    | omega
    | intro _
theorem fm_X8_remakes {a1 : Int32} {J : Mem}  : FO KJ Prod.snd J (fX8_remakes a1 J) := by
  unfold fX8_remakes
  repeat' first
    | with_reducible exact Kp.r
    | with_reducible assumption
    | with_reducible refine Kp.w ?_ (by unfold KJ; omega)
    | with_reducible refine Kp.i ?_ ?_
    | with_reducible refine FO.s1 ?_
    | with_reducible refine FO.s2 ?_
    | with_reducible refine FO.s3 ?_
    | with_reducible refine FO.a ?_ (by intro j; unfold KJ; omega)
    | with_reducible refine FO.z ?_ (by unfold KJ; omega)
    | with_reducible refine FO.tr ?_ (fm_X8_refused)
    | with_reducible refine FO.tr ?_ (fm_X8_keeps)
    | with_reducible refine FO.tr ?_ (fm_X8_renews)
    | with_reducible refine FO.m ?_ ?_
    | with_reducible refine FO.o2 ?_ ?_
    | with_reducible refine FO.o3 ?_ ?_
    | with_reducible refine FO.pm ?_ ?_
    | with_reducible refine FO.i ?_ ?_
    | with_reducible refine FO.b ?_
    | with_reducible refine FO.o2v ?_
    | with_reducible refine FO.p ?_
    | omega
    | intro _
theorem fm_X8_remakesBy_L23 {a2 : Int32}  : ∀ (n : Nat) (y0 : Int32) (J : Mem), FO KJ (fun M => M) J (fX8_remakesBy_L23 a2 n y0 J) := by
  intro n
  induction n with
  | zero => intro y0 J; rw [fX8_remakesBy_L23]; exact FO.n
  | succ n ih =>
    intro y0 J
    rw [fX8_remakesBy_L23]
    repeat' first
      | with_reducible exact Kp.r
      | with_reducible assumption
      | with_reducible refine Kp.w ?_ (by unfold KJ; omega)
      | with_reducible refine Kp.i ?_ ?_
      | with_reducible refine FO.s1 ?_
      | with_reducible refine FO.s2 ?_
      | with_reducible refine FO.s3 ?_
      | with_reducible refine FO.a ?_ (by intro j; unfold KJ; omega)
      | with_reducible refine FO.z ?_ (by unfold KJ; omega)
      | with_reducible refine FO.tr ?_ (fm_X8_renews)
      | with_reducible refine FO.tr ?_ (ih _ _)
      | with_reducible refine FO.m ?_ ?_
      | with_reducible refine FO.o2 ?_ ?_
      | with_reducible refine FO.o3 ?_ ?_
      | with_reducible refine FO.pm ?_ ?_
      | with_reducible refine FO.i ?_ ?_
      | with_reducible refine FO.b ?_
      | with_reducible refine FO.o2v ?_
      | with_reducible refine FO.p ?_
      | omega
      | intro _
theorem fm_X8_remakesBy {a1 : Int32} {J : Mem}  : FO KJ Prod.snd J (fX8_remakesBy a1 J) := by
  unfold fX8_remakesBy
  repeat' first
    | with_reducible exact Kp.r
    | with_reducible assumption
    | with_reducible refine Kp.w ?_ (by unfold KJ; omega)
    | with_reducible refine Kp.i ?_ ?_
    | with_reducible refine FO.s1 ?_
    | with_reducible refine FO.s2 ?_
    | with_reducible refine FO.s3 ?_
    | with_reducible refine FO.a ?_ (by intro j; unfold KJ; omega)
    | with_reducible refine FO.z ?_ (by unfold KJ; omega)
    | with_reducible refine FO.tr ?_ (fm_X8_refused)
    | with_reducible refine FO.tr ?_ (fm_X8_keeps)
    | with_reducible refine FO.tr ?_ (fm_X8_remakesBy_L23 _ _ _)
    | with_reducible refine FO.m ?_ ?_
    | with_reducible refine FO.o2 ?_ ?_
    | with_reducible refine FO.o3 ?_ ?_
    | with_reducible refine FO.pm ?_ ?_
    | with_reducible refine FO.i ?_ ?_
    | with_reducible refine FO.b ?_
    | with_reducible refine FO.o2v ?_
    | with_reducible refine FO.p ?_
    | omega
    | intro _
theorem fm_X8_hauls {a1 : Int32} {J : Mem}  : FO KJ Prod.snd J (fX8_hauls a1 J) := by
  unfold fX8_hauls
  repeat' first
    | with_reducible exact Kp.r
    | with_reducible assumption
    | with_reducible refine Kp.w ?_ (by unfold KJ; omega)
    | with_reducible refine Kp.i ?_ ?_
    | with_reducible refine FO.s1 ?_
    | with_reducible refine FO.s2 ?_
    | with_reducible refine FO.s3 ?_
    | with_reducible refine FO.a ?_ (by intro j; unfold KJ; omega)
    | with_reducible refine FO.z ?_ (by unfold KJ; omega)
    | with_reducible refine FO.tr ?_ (fm_X8_keeps)
    | with_reducible refine FO.tr ?_ (fm_X8_suspects)
    | with_reducible refine FO.tr ?_ (fm_X8_refused)
    | with_reducible refine FO.m ?_ ?_
    | with_reducible refine FO.o2 ?_ ?_
    | with_reducible refine FO.o3 ?_ ?_
    | with_reducible refine FO.pm ?_ ?_
    | with_reducible refine FO.i ?_ ?_
    | with_reducible refine FO.b ?_
    | with_reducible refine FO.o2v ?_
    | with_reducible refine FO.p ?_
    | omega
    | intro _
theorem fm_X8_stocks {a1 : Int32} {J : Mem}  : FO KJ Prod.snd J (fX8_stocks a1 J) := by
  unfold fX8_stocks
  repeat' first
    | with_reducible exact Kp.r
    | with_reducible assumption
    | with_reducible refine Kp.w ?_ (by unfold KJ; omega)
    | with_reducible refine Kp.i ?_ ?_
    | with_reducible refine FO.s1 ?_
    | with_reducible refine FO.s2 ?_
    | with_reducible refine FO.s3 ?_
    | with_reducible refine FO.a ?_ (by intro j; unfold KJ; omega)
    | with_reducible refine FO.z ?_ (by unfold KJ; omega)
    | with_reducible refine FO.tr ?_ (fm_X8_keeps)
    | with_reducible refine FO.tr ?_ (fm_X8_refused)
    | with_reducible refine FO.m ?_ ?_
    | with_reducible refine FO.o2 ?_ ?_
    | with_reducible refine FO.o3 ?_ ?_
    | with_reducible refine FO.pm ?_ ?_
    | with_reducible refine FO.i ?_ ?_
    | with_reducible refine FO.b ?_
    | with_reducible refine FO.o2v ?_
    | with_reducible refine FO.p ?_
    | omega
    | intro _
