/-! WHAT THE ACTS LEAVE AS IT IS (printed by gen60.py) -/
def Kp (K : Nat → Nat → Prop) (I I' : Mem) : Prop := ∀ k j, K k j → I' k j = I k j
def FO {A : Type} (K : Nat → Nat → Prop) (π : A → Mem) (I : Mem) (o : Option A) : Prop := ∀ a, o = some a → Kp K I (π a)
def KI (k j : Nat) : Prop := (61 ≤ k ∧ k ≤ 64) ∨ (k = 2 ∧ j = 0)
def KJ (k j : Nat) : Prop := k = 316 ∨ (k = 306 ∧ (j = 23 ∨ j = 24))
section FO
variable {A B C : Type} {K : Nat → Nat → Prop} {I M : Mem} {π : A → Mem}
theorem Kp.r : Kp K I I := fun _ _ _ => rfl
theorem Kp.w {k j : Nat} {v : Int32} (h : Kp K I M) (hk : ¬ K k j) : Kp K I (wr M k j v) := fun k' j' q => by
  rw [wr_n (by rintro ⟨rfl, rfl⟩; exact hk q)]
  exact h k' j' q
theorem Kp.i {c : Prop} [Decidable c] {M' : Mem} (h1 : Kp K I M) (h2 : Kp K I M') : Kp K I (if c then M else M') := by
  split
  · exact h1
  · exact h2
theorem FO.b {o : Option B} {f : B → Option A} (h : ∀ x, FO K π I (f x)) : FO K π I (Option.bind o f) := by
  intro a e
  cases o with
  | none => exact absurd e (by simp)
  | some x => exact h x a e
theorem FO.m {o : Option Mem} {f : Mem → Option A} (h1 : FO K (fun M => M) I o) (h2 : ∀ M, Kp K I M → FO K π I (f M)) : FO K π I (Option.bind o f) := by
  intro a e
  cases o with
  | none => exact absurd e (by simp)
  | some x => exact h2 x (h1 x rfl) a e
theorem FO.o2 {o : Option (B × Mem)} {f : B → Mem → Option A} (h1 : FO K Prod.snd I o) (h2 : ∀ x M, Kp K I M → FO K π I (f x M)) : FO K π I (ob2 o f) := by
  intro a e
  cases o with
  | none => exact absurd e (by simp [ob2])
  | some x => exact h2 x.1 x.2 (h1 x rfl) a e
theorem FO.o2v {o : Option (B × C)} {f : B → C → Option A} (h : ∀ x y, FO K π I (f x y)) : FO K π I (ob2 o f) := by
  intro a e
  cases o with
  | none => exact absurd e (by simp [ob2])
  | some x => exact h x.1 x.2 a e
theorem FO.o3 {o : Option (B × C × Mem)} {f : B → C → Mem → Option A} (h1 : FO K (fun t => t.2.2) I o) (h2 : ∀ x y M, Kp K I M → FO K π I (f x y M)) : FO K π I (ob3 o f) := by
  intro a e
  cases o with
  | none => exact absurd e (by simp [ob3])
  | some x => exact h2 x.1 x.2.1 x.2.2 (h1 x rfl) a e
theorem FO.i {c : Prop} [Decidable c] {x y : Option A} (h1 : FO K π I x) (h2 : FO K π I y) : FO K π I (if c then x else y) := by
  split
  · exact h1
  · exact h2
theorem FO.p {x : B} {f : B → Option A} (h : ∀ x, FO K π I (f x)) : FO K π I (plet x f) := h x
theorem FO.pm {x : Mem} {f : Mem → Option A} (h1 : Kp K I x) (h2 : ∀ M, Kp K I M → FO K π I (f M)) : FO K π I (plet x f) := h2 x h1
theorem FO.n : FO K π I none := fun a e => absurd e (by simp)
theorem FO.s1 (h : Kp K I M) : FO K (fun M => M) I (some M) := fun a e => by
  injection e with e
  rw [← e]
  exact h
theorem FO.s2 {x : B} (h : Kp K I M) : FO K Prod.snd I (some (x, M)) := fun a e => by
  injection e with e
  rw [← e]
  exact h
theorem FO.s3 {x : B} {y : C} (h : Kp K I M) : FO K (fun t => t.2.2) I (some (x, y, M)) := fun a e => by
  injection e with e
  rw [← e]
  exact h
theorem FO.a {k n : Nat} {x v : Int32} (h : Kp K I M) (hk : ∀ j, ¬ K k j) : FO K (fun M => M) I (ast M k n x v) := by
  unfold ast
  split
  · exact FO.n
  · exact FO.s1 (h.w (hk _))
theorem FO.z {k j : Nat} {v : Int32} (h : Kp K I M) (hk : ¬ K k j) : FO K (fun M => M) I (zput M k j v) := by
  intro a e
  unfold zput at e
  split at e
  · injection e with e
    rw [← e]
    exact h.w hk
  · exact absurd e (by simp)
theorem FO.tr {o : Option A} (h : Kp K I M) (h2 : FO K π M o) : FO K π I o := fun a e k j q => (h2 a e k j q).trans (h k j q)
theorem FO.o {o : Option A} {a : A} (h : FO K π I o) (e : o = some a) : Kp K I (π a) := h a e
end FO
theorem fm_begin {I : Mem} : FO KI (fun M => M) I (fX7_beginAct I) := by
  unfold fX7_beginAct
  refine FO.b fun j1 => ?_
  obtain ⟨I', e, -, f⟩ := cp_e (I := I) (b := 66 + 24 * j1) (b1 := 1) (by omega)
  rw [e, ob_s]
  have hK : Kp KI I I' := fun k j q => f k j (by unfold KI at q; omega)
  refine FO.b fun x3 => FO.b fun x4 => FO.m (FO.a (Kp.w (Kp.w hK (by unfold KI; omega)) (by unfold KI; omega)) (by intro j; unfold KI; omega)) fun M h => FO.s1 h
theorem fm_X7_report {a1 : Int32} {a2 : Int32} {I : Mem}  : FO KI (fun t => t.2.2) I (fX7_report a1 a2 I) := by
  unfold fX7_report
  repeat' first
    | with_reducible exact Kp.r
    | with_reducible assumption
    | with_reducible refine Kp.w ?_ (by unfold KI; omega)
    | with_reducible refine Kp.i ?_ ?_
    | with_reducible refine FO.s1 ?_
    | with_reducible refine FO.s2 ?_
    | with_reducible refine FO.s3 ?_
    | with_reducible refine FO.a ?_ (by intro j; unfold KI; omega)
    | with_reducible refine FO.z ?_ (by unfold KI; omega)
    | with_reducible refine FO.tr ?_ (fm_begin)
    | with_reducible refine FO.m ?_ ?_
    | with_reducible refine FO.o2 ?_ ?_
    | with_reducible refine FO.o3 ?_ ?_
    | with_reducible refine FO.pm ?_ ?_
    | with_reducible refine FO.i ?_ ?_
    | with_reducible refine FO.b ?_
    | with_reducible refine FO.o2v ?_
    | with_reducible refine FO.p ?_
    | omega
    | intro _
theorem fm_X0_tellValues_L2 {b : Nat} {k1 : Nat} {a2 : Int32} (hb : 1 ≤ b ∧ (b ≤ 37 ∨ 65 ≤ b)) (hk : k1 ≠ 2 ∧ ¬ (61 ≤ k1 ∧ k1 ≤ 64)) : ∀ (n : Nat) (y0 : Int32) (I : Mem), FO KI (fun M => M) I (fX0_tellValues_L2 b k1 a2 n y0 I) := by
  intro n
  induction n with
  | zero => intro y0 I; rw [fX0_tellValues_L2]; exact FO.n
  | succ n ih =>
    intro y0 I
    rw [fX0_tellValues_L2]
    repeat' first
      | with_reducible exact Kp.r
      | with_reducible assumption
      | with_reducible refine Kp.w ?_ (by unfold KI; omega)
      | with_reducible refine Kp.i ?_ ?_
      | with_reducible refine FO.s1 ?_
      | with_reducible refine FO.s2 ?_
      | with_reducible refine FO.s3 ?_
      | with_reducible refine FO.a ?_ (by intro j; unfold KI; omega)
      | with_reducible refine FO.z ?_ (by unfold KI; omega)
      | with_reducible refine FO.tr ?_ (ih _ _)
      | with_reducible refine FO.m ?_ ?_
      | with_reducible refine FO.o2 ?_ ?_
      | with_reducible refine FO.o3 ?_ ?_
      | with_reducible refine FO.pm ?_ ?_
      | with_reducible refine FO.i ?_ ?_
      | with_reducible refine FO.b ?_
      | with_reducible refine FO.o2v ?_
      | with_reducible refine FO.p ?_
      | omega
      | intro _
theorem fm_X0_tellValues {b : Nat} {k1 : Nat} {a2 : Int32} {I : Mem} (hb : 1 ≤ b ∧ (b ≤ 37 ∨ 65 ≤ b)) (hk : k1 ≠ 2 ∧ ¬ (61 ≤ k1 ∧ k1 ≤ 64)) : FO KI (fun M => M) I (fX0_tellValues b k1 a2 I) := by
  unfold fX0_tellValues
  repeat' first
    | with_reducible exact Kp.r
    | with_reducible assumption
    | with_reducible refine Kp.w ?_ (by unfold KI; omega)
    | with_reducible refine Kp.i ?_ ?_
    | with_reducible refine FO.s1 ?_
    | with_reducible refine FO.s2 ?_
    | with_reducible refine FO.s3 ?_
    | with_reducible refine FO.a ?_ (by intro j; unfold KI; omega)
    | with_reducible refine FO.z ?_ (by unfold KI; omega)
    | with_reducible refine FO.tr ?_ (fm_X0_tellValues_L2 ?_ ?_ _ _ _)
    | with_reducible refine FO.m ?_ ?_
    | with_reducible refine FO.o2 ?_ ?_
    | with_reducible refine FO.o3 ?_ ?_
    | with_reducible refine FO.pm ?_ ?_
    | with_reducible refine FO.i ?_ ?_
    | with_reducible refine FO.b ?_
    | with_reducible refine FO.o2v ?_
    | with_reducible refine FO.p ?_
    | omega
    | intro _
theorem fm_X5_openRow {b : Nat} {I : Mem} (hb : 1 ≤ b ∧ (b ≤ 37 ∨ 65 ≤ b)) : FO KI Prod.snd I (fX5_openRow b I) := by
  unfold fX5_openRow
  repeat' first
    | with_reducible exact Kp.r
    | with_reducible assumption
    | with_reducible refine Kp.w ?_ (by unfold KI; omega)
    | with_reducible refine Kp.i ?_ ?_
    | with_reducible refine FO.s1 ?_
    | with_reducible refine FO.s2 ?_
    | with_reducible refine FO.s3 ?_
    | with_reducible refine FO.a ?_ (by intro j; unfold KI; omega)
    | with_reducible refine FO.z ?_ (by unfold KI; omega)
    | with_reducible refine FO.tr ?_ (fm_X0_tellValues ?_ ?_)
    | with_reducible refine FO.m ?_ ?_
    | with_reducible refine FO.o2 ?_ ?_
    | with_reducible refine FO.o3 ?_ ?_
    | with_reducible refine FO.pm ?_ ?_
    | with_reducible refine FO.i ?_ ?_
    | with_reducible refine FO.b ?_
    | with_reducible refine FO.o2v ?_
    | with_reducible refine FO.p ?_
    | omega
    | intro _
theorem fm_X6_count_L8 {k2 : Nat} {k3 : Nat} {a1 : Int32} {a4 : Int32} {a5 : Int32}  : ∀ (n : Nat) (y0 : Int32) (I : Mem), FO KI (fun M => M) I (fX6_count_L8 k2 k3 a1 a4 a5 n y0 I) := by
  intro n
  induction n with
  | zero => intro y0 I; rw [fX6_count_L8]; exact FO.n
  | succ n ih =>
    intro y0 I
    rw [fX6_count_L8]
    repeat' first
      | with_reducible exact Kp.r
      | with_reducible assumption
      | with_reducible refine Kp.w ?_ (by unfold KI; omega)
      | with_reducible refine Kp.i ?_ ?_
      | with_reducible refine FO.s1 ?_
      | with_reducible refine FO.s2 ?_
      | with_reducible refine FO.s3 ?_
      | with_reducible refine FO.a ?_ (by intro j; unfold KI; omega)
      | with_reducible refine FO.z ?_ (by unfold KI; omega)
      | with_reducible refine FO.tr ?_ (ih _ _)
      | with_reducible refine FO.m ?_ ?_
      | with_reducible refine FO.o2 ?_ ?_
      | with_reducible refine FO.o3 ?_ ?_
      | with_reducible refine FO.pm ?_ ?_
      | with_reducible refine FO.i ?_ ?_
      | with_reducible refine FO.b ?_
      | with_reducible refine FO.o2v ?_
      | with_reducible refine FO.p ?_
      | omega
      | intro _
theorem fm_X6_weigh_L13 {a1 : Int32} {a2 : Int32}  : ∀ (n : Nat) (y0 : Int32) (y1 : Int32) (y2 : Int32) (I : Mem), FO KI (fun t => t.2.2) I (fX6_weigh_L13 a1 a2 n y0 y1 y2 I) := by
  intro n
  induction n with
  | zero => intro y0 y1 y2 I; rw [fX6_weigh_L13]; exact FO.n
  | succ n ih =>
    intro y0 y1 y2 I
    rw [fX6_weigh_L13]
    repeat' first
      | with_reducible exact Kp.r
      | with_reducible assumption
      | with_reducible refine Kp.w ?_ (by unfold KI; omega)
      | with_reducible refine Kp.i ?_ ?_
      | with_reducible refine FO.s1 ?_
      | with_reducible refine FO.s2 ?_
      | with_reducible refine FO.s3 ?_
      | with_reducible refine FO.a ?_ (by intro j; unfold KI; omega)
      | with_reducible refine FO.z ?_ (by unfold KI; omega)
      | with_reducible refine FO.tr ?_ (ih _ _ _ _)
      | with_reducible refine FO.m ?_ ?_
      | with_reducible refine FO.o2 ?_ ?_
      | with_reducible refine FO.o3 ?_ ?_
      | with_reducible refine FO.pm ?_ ?_
      | with_reducible refine FO.i ?_ ?_
      | with_reducible refine FO.b ?_
      | with_reducible refine FO.o2v ?_
      | with_reducible refine FO.p ?_
      | omega
      | intro _
theorem fm_X6_weigh {a1 : Int32} {a2 : Int32} {I : Mem}  : FO KI (fun M => M) I (fX6_weigh a1 a2 I) := by
  unfold fX6_weigh
  repeat' first
    | with_reducible exact Kp.r
    | with_reducible assumption
    | with_reducible refine Kp.w ?_ (by unfold KI; omega)
    | with_reducible refine Kp.i ?_ ?_
    | with_reducible refine FO.s1 ?_
    | with_reducible refine FO.s2 ?_
    | with_reducible refine FO.s3 ?_
    | with_reducible refine FO.a ?_ (by intro j; unfold KI; omega)
    | with_reducible refine FO.z ?_ (by unfold KI; omega)
    | with_reducible refine FO.tr ?_ (fm_X6_weigh_L13 _ _ _ _ _)
    | with_reducible refine FO.m ?_ ?_
    | with_reducible refine FO.o2 ?_ ?_
    | with_reducible refine FO.o3 ?_ ?_
    | with_reducible refine FO.pm ?_ ?_
    | with_reducible refine FO.i ?_ ?_
    | with_reducible refine FO.b ?_
    | with_reducible refine FO.o2v ?_
    | with_reducible refine FO.p ?_
    | omega
    | intro _
theorem fm_X6_count {k2 : Nat} {k3 : Nat} {a1 : Int32} {a4 : Int32} {a5 : Int32} {I : Mem}  : FO KI (fun M => M) I (fX6_count k2 k3 a1 a4 a5 I) := by
  unfold fX6_count
  repeat' first
    | with_reducible exact Kp.r
    | with_reducible assumption
    | with_reducible refine Kp.w ?_ (by unfold KI; omega)
    | with_reducible refine Kp.i ?_ ?_
    | with_reducible refine FO.s1 ?_
    | with_reducible refine FO.s2 ?_
    | with_reducible refine FO.s3 ?_
    | with_reducible refine FO.a ?_ (by intro j; unfold KI; omega)
    | with_reducible refine FO.z ?_ (by unfold KI; omega)
    | with_reducible refine FO.tr ?_ (fm_X6_count_L8 _ _ _)
    | with_reducible refine FO.tr ?_ (fm_X6_weigh)
    | with_reducible refine FO.m ?_ ?_
    | with_reducible refine FO.o2 ?_ ?_
    | with_reducible refine FO.o3 ?_ ?_
    | with_reducible refine FO.pm ?_ ?_
    | with_reducible refine FO.i ?_ ?_
    | with_reducible refine FO.b ?_
    | with_reducible refine FO.o2v ?_
    | with_reducible refine FO.p ?_
    | omega
    | intro _
theorem fm_X5_tellLevel {b : Nat} {a1 : Int32} {I : Mem} (hb : 1 ≤ b ∧ (b ≤ 37 ∨ 65 ≤ b)) : FO KI (fun M => M) I (fX5_tellLevel b a1 I) := by
  unfold fX5_tellLevel
  repeat' first
    | with_reducible exact Kp.r
    | with_reducible assumption
    | with_reducible refine Kp.w ?_ (by unfold KI; omega)
    | with_reducible refine Kp.i ?_ ?_
    | with_reducible refine FO.s1 ?_
    | with_reducible refine FO.s2 ?_
    | with_reducible refine FO.s3 ?_
    | with_reducible refine FO.a ?_ (by intro j; unfold KI; omega)
    | with_reducible refine FO.z ?_ (by unfold KI; omega)
    | with_reducible refine FO.tr ?_ (fm_X6_count)
    | with_reducible refine FO.m ?_ ?_
    | with_reducible refine FO.o2 ?_ ?_
    | with_reducible refine FO.o3 ?_ ?_
    | with_reducible refine FO.pm ?_ ?_
    | with_reducible refine FO.i ?_ ?_
    | with_reducible refine FO.b ?_
    | with_reducible refine FO.o2v ?_
    | with_reducible refine FO.p ?_
    | omega
    | intro _
theorem fm_X5_countStrikes_L2 {b : Nat} {a1 : Int32} (hb : 1 ≤ b ∧ (b ≤ 37 ∨ 65 ≤ b)) : ∀ (n : Nat) (y0 : Int32) (I : Mem), FO KI (fun M => M) I (fX5_countStrikes_L2 b a1 n y0 I) := by
  intro n
  induction n with
  | zero => intro y0 I; rw [fX5_countStrikes_L2]; exact FO.n
  | succ n ih =>
    intro y0 I
    rw [fX5_countStrikes_L2]
    repeat' first
      | with_reducible exact Kp.r
      | with_reducible assumption
      | with_reducible refine Kp.w ?_ (by unfold KI; omega)
      | with_reducible refine Kp.i ?_ ?_
      | with_reducible refine FO.s1 ?_
      | with_reducible refine FO.s2 ?_
      | with_reducible refine FO.s3 ?_
      | with_reducible refine FO.a ?_ (by intro j; unfold KI; omega)
      | with_reducible refine FO.z ?_ (by unfold KI; omega)
      | with_reducible refine FO.tr ?_ (ih _ _)
      | with_reducible refine FO.m ?_ ?_
      | with_reducible refine FO.o2 ?_ ?_
      | with_reducible refine FO.o3 ?_ ?_
      | with_reducible refine FO.pm ?_ ?_
      | with_reducible refine FO.i ?_ ?_
      | with_reducible refine FO.b ?_
      | with_reducible refine FO.o2v ?_
      | with_reducible refine FO.p ?_
      | omega
      | intro _
theorem fm_X5_countStrikes {b : Nat} {a1 : Int32} {I : Mem} (hb : 1 ≤ b ∧ (b ≤ 37 ∨ 65 ≤ b)) : FO KI (fun M => M) I (fX5_countStrikes b a1 I) := by
  unfold fX5_countStrikes
  repeat' first
    | with_reducible exact Kp.r
    | with_reducible assumption
    | with_reducible refine Kp.w ?_ (by unfold KI; omega)
    | with_reducible refine Kp.i ?_ ?_
    | with_reducible refine FO.s1 ?_
    | with_reducible refine FO.s2 ?_
    | with_reducible refine FO.s3 ?_
    | with_reducible refine FO.a ?_ (by intro j; unfold KI; omega)
    | with_reducible refine FO.z ?_ (by unfold KI; omega)
    | with_reducible refine FO.tr ?_ (fm_X5_countStrikes_L2 ?_ _ _ _)
    | with_reducible refine FO.m ?_ ?_
    | with_reducible refine FO.o2 ?_ ?_
    | with_reducible refine FO.o3 ?_ ?_
    | with_reducible refine FO.pm ?_ ?_
    | with_reducible refine FO.i ?_ ?_
    | with_reducible refine FO.b ?_
    | with_reducible refine FO.o2v ?_
    | with_reducible refine FO.p ?_
    | omega
    | intro _
theorem fm_X5_countAgreed_L22 {b : Nat} {a2 : Int32} {a1 : Int32} (hb : 1 ≤ b ∧ (b ≤ 37 ∨ 65 ≤ b)) : ∀ (n : Nat) (y0 : Int32) (I : Mem), FO KI (fun M => M) I (fX5_countAgreed_L22 b a2 a1 n y0 I) := by
  intro n
  induction n with
  | zero => intro y0 I; rw [fX5_countAgreed_L22]; exact FO.n
  | succ n ih =>
    intro y0 I
    rw [fX5_countAgreed_L22]
    repeat' first
      | with_reducible exact Kp.r
      | with_reducible assumption
      | with_reducible refine Kp.w ?_ (by unfold KI; omega)
      | with_reducible refine Kp.i ?_ ?_
      | with_reducible refine FO.s1 ?_
      | with_reducible refine FO.s2 ?_
      | with_reducible refine FO.s3 ?_
      | with_reducible refine FO.a ?_ (by intro j; unfold KI; omega)
      | with_reducible refine FO.z ?_ (by unfold KI; omega)
      | with_reducible refine FO.tr ?_ (ih _ _)
      | with_reducible refine FO.m ?_ ?_
      | with_reducible refine FO.o2 ?_ ?_
      | with_reducible refine FO.o3 ?_ ?_
      | with_reducible refine FO.pm ?_ ?_
      | with_reducible refine FO.i ?_ ?_
      | with_reducible refine FO.b ?_
      | with_reducible refine FO.o2v ?_
      | with_reducible refine FO.p ?_
      | omega
      | intro _
theorem fm_X5_countAgreed {b : Nat} {a1 : Int32} {I : Mem} (hb : 1 ≤ b ∧ (b ≤ 37 ∨ 65 ≤ b)) : FO KI (fun M => M) I (fX5_countAgreed b a1 I) := by
  unfold fX5_countAgreed
  repeat' first
    | with_reducible exact Kp.r
    | with_reducible assumption
    | with_reducible refine Kp.w ?_ (by unfold KI; omega)
    | with_reducible refine Kp.i ?_ ?_
    | with_reducible refine FO.s1 ?_
    | with_reducible refine FO.s2 ?_
    | with_reducible refine FO.s3 ?_
    | with_reducible refine FO.a ?_ (by intro j; unfold KI; omega)
    | with_reducible refine FO.z ?_ (by unfold KI; omega)
    | with_reducible refine FO.tr ?_ (fm_X5_countAgreed_L22 ?_ _ _ _)
    | with_reducible refine FO.m ?_ ?_
    | with_reducible refine FO.o2 ?_ ?_
    | with_reducible refine FO.o3 ?_ ?_
    | with_reducible refine FO.pm ?_ ?_
    | with_reducible refine FO.i ?_ ?_
    | with_reducible refine FO.b ?_
    | with_reducible refine FO.o2v ?_
    | with_reducible refine FO.p ?_
    | omega
    | intro _
theorem fm_X5_trustAgain_L2 {b : Nat} (hb : 1 ≤ b ∧ (b ≤ 37 ∨ 65 ≤ b)) : ∀ (n : Nat) (y0 : Int32) (I : Mem), FO KI (fun M => M) I (fX5_trustAgain_L2 b n y0 I) := by
  intro n
  induction n with
  | zero => intro y0 I; rw [fX5_trustAgain_L2]; exact FO.n
  | succ n ih =>
    intro y0 I
    rw [fX5_trustAgain_L2]
    repeat' first
      | with_reducible exact Kp.r
      | with_reducible assumption
      | with_reducible refine Kp.w ?_ (by unfold KI; omega)
      | with_reducible refine Kp.i ?_ ?_
      | with_reducible refine FO.s1 ?_
      | with_reducible refine FO.s2 ?_
      | with_reducible refine FO.s3 ?_
      | with_reducible refine FO.a ?_ (by intro j; unfold KI; omega)
      | with_reducible refine FO.z ?_ (by unfold KI; omega)
      | with_reducible refine FO.tr ?_ (ih _ _)
      | with_reducible refine FO.m ?_ ?_
      | with_reducible refine FO.o2 ?_ ?_
      | with_reducible refine FO.o3 ?_ ?_
      | with_reducible refine FO.pm ?_ ?_
      | with_reducible refine FO.i ?_ ?_
      | with_reducible refine FO.b ?_
      | with_reducible refine FO.o2v ?_
      | with_reducible refine FO.p ?_
      | omega
      | intro _
theorem fm_X5_trustAgain {b : Nat} {I : Mem} (hb : 1 ≤ b ∧ (b ≤ 37 ∨ 65 ≤ b)) : FO KI (fun M => M) I (fX5_trustAgain b I) := by
  unfold fX5_trustAgain
  repeat' first
    | with_reducible exact Kp.r
    | with_reducible assumption
    | with_reducible refine Kp.w ?_ (by unfold KI; omega)
    | with_reducible refine Kp.i ?_ ?_
    | with_reducible refine FO.s1 ?_
    | with_reducible refine FO.s2 ?_
    | with_reducible refine FO.s3 ?_
    | with_reducible refine FO.a ?_ (by intro j; unfold KI; omega)
    | with_reducible refine FO.z ?_ (by unfold KI; omega)
    | with_reducible refine FO.tr ?_ (fm_X5_trustAgain_L2 ?_ _ _ _)
    | with_reducible refine FO.m ?_ ?_
    | with_reducible refine FO.o2 ?_ ?_
    | with_reducible refine FO.o3 ?_ ?_
    | with_reducible refine FO.pm ?_ ?_
    | with_reducible refine FO.i ?_ ?_
    | with_reducible refine FO.b ?_
    | with_reducible refine FO.o2v ?_
    | with_reducible refine FO.p ?_
    | omega
    | intro _
theorem fm_X5_dragVoters_L4 {b : Nat} {a1 : Int32} (hb : 1 ≤ b ∧ (b ≤ 37 ∨ 65 ≤ b)) : ∀ (n : Nat) (y0 : Int32) (y1 : Int32) (I : Mem), FO KI Prod.snd I (fX5_dragVoters_L4 b a1 n y0 y1 I) := by
  intro n
  induction n with
  | zero => intro y0 y1 I; rw [fX5_dragVoters_L4]; exact FO.n
  | succ n ih =>
    intro y0 y1 I
    rw [fX5_dragVoters_L4]
    repeat' first
      | with_reducible exact Kp.r
      | with_reducible assumption
      | with_reducible refine Kp.w ?_ (by unfold KI; omega)
      | with_reducible refine Kp.i ?_ ?_
      | with_reducible refine FO.s1 ?_
      | with_reducible refine FO.s2 ?_
      | with_reducible refine FO.s3 ?_
      | with_reducible refine FO.a ?_ (by intro j; unfold KI; omega)
      | with_reducible refine FO.z ?_ (by unfold KI; omega)
      | with_reducible refine FO.tr ?_ (ih _ _ _)
      | with_reducible refine FO.m ?_ ?_
      | with_reducible refine FO.o2 ?_ ?_
      | with_reducible refine FO.o3 ?_ ?_
      | with_reducible refine FO.pm ?_ ?_
      | with_reducible refine FO.i ?_ ?_
      | with_reducible refine FO.b ?_
      | with_reducible refine FO.o2v ?_
      | with_reducible refine FO.p ?_
      | omega
      | intro _
theorem fm_X5_dragVoters {b : Nat} {a1 : Int32} {I : Mem} (hb : 1 ≤ b ∧ (b ≤ 37 ∨ 65 ≤ b)) : FO KI Prod.snd I (fX5_dragVoters b a1 I) := by
  unfold fX5_dragVoters
  repeat' first
    | with_reducible exact Kp.r
    | with_reducible assumption
    | with_reducible refine Kp.w ?_ (by unfold KI; omega)
    | with_reducible refine Kp.i ?_ ?_
    | with_reducible refine FO.s1 ?_
    | with_reducible refine FO.s2 ?_
    | with_reducible refine FO.s3 ?_
    | with_reducible refine FO.a ?_ (by intro j; unfold KI; omega)
    | with_reducible refine FO.z ?_ (by unfold KI; omega)
    | with_reducible refine FO.tr ?_ (fm_X5_dragVoters_L4 ?_ _ _ _ _)
    | with_reducible refine FO.m ?_ ?_
    | with_reducible refine FO.o2 ?_ ?_
    | with_reducible refine FO.o3 ?_ ?_
    | with_reducible refine FO.pm ?_ ?_
    | with_reducible refine FO.i ?_ ?_
    | with_reducible refine FO.b ?_
    | with_reducible refine FO.o2v ?_
    | with_reducible refine FO.p ?_
    | omega
    | intro _
theorem fm_X5_takeOut_L5 {b : Nat} {a1 : Int32} (hb : 1 ≤ b ∧ (b ≤ 37 ∨ 65 ≤ b)) : ∀ (n : Nat) (y0 : Int32) (I : Mem), FO KI (fun M => M) I (fX5_takeOut_L5 b a1 n y0 I) := by
  intro n
  induction n with
  | zero => intro y0 I; rw [fX5_takeOut_L5]; exact FO.n
  | succ n ih =>
    intro y0 I
    rw [fX5_takeOut_L5]
    repeat' first
      | with_reducible exact Kp.r
      | with_reducible assumption
      | with_reducible refine Kp.w ?_ (by unfold KI; omega)
      | with_reducible refine Kp.i ?_ ?_
      | with_reducible refine FO.s1 ?_
      | with_reducible refine FO.s2 ?_
      | with_reducible refine FO.s3 ?_
      | with_reducible refine FO.a ?_ (by intro j; unfold KI; omega)
      | with_reducible refine FO.z ?_ (by unfold KI; omega)
      | with_reducible refine FO.tr ?_ (fm_X5_tellLevel ?_)
      | with_reducible refine FO.tr ?_ (ih _ _)
      | with_reducible refine FO.m ?_ ?_
      | with_reducible refine FO.o2 ?_ ?_
      | with_reducible refine FO.o3 ?_ ?_
      | with_reducible refine FO.pm ?_ ?_
      | with_reducible refine FO.i ?_ ?_
      | with_reducible refine FO.b ?_
      | with_reducible refine FO.o2v ?_
      | with_reducible refine FO.p ?_
      | omega
      | intro _
theorem fm_X5_takeOut {b : Nat} {a1 : Int32} {I : Mem} (hb : 1 ≤ b ∧ (b ≤ 37 ∨ 65 ≤ b)) : FO KI (fun M => M) I (fX5_takeOut b a1 I) := by
  unfold fX5_takeOut
  repeat' first
    | with_reducible exact Kp.r
    | with_reducible assumption
    | with_reducible refine Kp.w ?_ (by unfold KI; omega)
    | with_reducible refine Kp.i ?_ ?_
    | with_reducible refine FO.s1 ?_
    | with_reducible refine FO.s2 ?_
    | with_reducible refine FO.s3 ?_
    | with_reducible refine FO.a ?_ (by intro j; unfold KI; omega)
    | with_reducible refine FO.z ?_ (by unfold KI; omega)
    | with_reducible refine FO.tr ?_ (fm_X5_takeOut_L5 ?_ _ _ _)
    | with_reducible refine FO.m ?_ ?_
    | with_reducible refine FO.o2 ?_ ?_
    | with_reducible refine FO.o3 ?_ ?_
    | with_reducible refine FO.pm ?_ ?_
    | with_reducible refine FO.i ?_ ?_
    | with_reducible refine FO.b ?_
    | with_reducible refine FO.o2v ?_
    | with_reducible refine FO.p ?_
    | omega
    | intro _
theorem fm_X0_forgetReports_L7 {b : Nat} (hb : 1 ≤ b ∧ (b ≤ 37 ∨ 65 ≤ b)) : ∀ (n : Nat) (y0 : Int32) (I : Mem), FO KI (fun M => M) I (fX0_forgetReports_L7 b n y0 I) := by
  intro n
  induction n with
  | zero => intro y0 I; rw [fX0_forgetReports_L7]; exact FO.n
  | succ n ih =>
    intro y0 I
    rw [fX0_forgetReports_L7]
    repeat' first
      | with_reducible exact Kp.r
      | with_reducible assumption
      | with_reducible refine Kp.w ?_ (by unfold KI; omega)
      | with_reducible refine Kp.i ?_ ?_
      | with_reducible refine FO.s1 ?_
      | with_reducible refine FO.s2 ?_
      | with_reducible refine FO.s3 ?_
      | with_reducible refine FO.a ?_ (by intro j; unfold KI; omega)
      | with_reducible refine FO.z ?_ (by unfold KI; omega)
      | with_reducible refine FO.tr ?_ (ih _ _)
      | with_reducible refine FO.m ?_ ?_
      | with_reducible refine FO.o2 ?_ ?_
      | with_reducible refine FO.o3 ?_ ?_
      | with_reducible refine FO.pm ?_ ?_
      | with_reducible refine FO.i ?_ ?_
      | with_reducible refine FO.b ?_
      | with_reducible refine FO.o2v ?_
      | with_reducible refine FO.p ?_
      | omega
      | intro _
theorem fm_X0_forgetReports {b : Nat} {I : Mem} (hb : 1 ≤ b ∧ (b ≤ 37 ∨ 65 ≤ b)) : FO KI (fun M => M) I (fX0_forgetReports b I) := by
  unfold fX0_forgetReports
  repeat' first
    | with_reducible exact Kp.r
    | with_reducible assumption
    | with_reducible refine Kp.w ?_ (by unfold KI; omega)
    | with_reducible refine Kp.i ?_ ?_
    | with_reducible refine FO.s1 ?_
    | with_reducible refine FO.s2 ?_
    | with_reducible refine FO.s3 ?_
    | with_reducible refine FO.a ?_ (by intro j; unfold KI; omega)
    | with_reducible refine FO.z ?_ (by unfold KI; omega)
    | with_reducible refine FO.tr ?_ (fm_X0_forgetReports_L7 ?_ _ _ _)
    | with_reducible refine FO.m ?_ ?_
    | with_reducible refine FO.o2 ?_ ?_
    | with_reducible refine FO.o3 ?_ ?_
    | with_reducible refine FO.pm ?_ ?_
    | with_reducible refine FO.i ?_ ?_
    | with_reducible refine FO.b ?_
    | with_reducible refine FO.o2v ?_
    | with_reducible refine FO.p ?_
    | omega
    | intro _
theorem fm_X5_blow_L21 {b : Nat} {a5 : Int32} {a4 : Int32} {a1 : Int32} {a2 : Int32} {a3 : Int32} (hb : 1 ≤ b ∧ (b ≤ 37 ∨ 65 ≤ b)) : ∀ (n : Nat) (y0 : Int32) (I : Mem), FO KI (fun M => M) I (fX5_blow_L21 b a5 a4 a1 a2 a3 n y0 I) := by
  intro n
  induction n with
  | zero => intro y0 I; rw [fX5_blow_L21]; exact FO.n
  | succ n ih =>
    intro y0 I
    rw [fX5_blow_L21]
    repeat' first
      | with_reducible exact Kp.r
      | with_reducible assumption
      | with_reducible refine Kp.w ?_ (by unfold KI; omega)
      | with_reducible refine Kp.i ?_ ?_
      | with_reducible refine FO.s1 ?_
      | with_reducible refine FO.s2 ?_
      | with_reducible refine FO.s3 ?_
      | with_reducible refine FO.a ?_ (by intro j; unfold KI; omega)
      | with_reducible refine FO.z ?_ (by unfold KI; omega)
      | with_reducible refine FO.tr ?_ (ih _ _)
      | with_reducible refine FO.m ?_ ?_
      | with_reducible refine FO.o2 ?_ ?_
      | with_reducible refine FO.o3 ?_ ?_
      | with_reducible refine FO.pm ?_ ?_
      | with_reducible refine FO.i ?_ ?_
      | with_reducible refine FO.b ?_
      | with_reducible refine FO.o2v ?_
      | with_reducible refine FO.p ?_
      | omega
      | intro _
theorem fm_X0_putUnderSuspicion {b : Nat} {a1 : Int32} {I : Mem} (hb : 1 ≤ b ∧ (b ≤ 37 ∨ 65 ≤ b)) : FO KI (fun M => M) I (fX0_putUnderSuspicion b a1 I) := by
  unfold fX0_putUnderSuspicion
  repeat' first
    | with_reducible exact Kp.r
    | with_reducible assumption
    | with_reducible refine Kp.w ?_ (by unfold KI; omega)
    | with_reducible refine Kp.i ?_ ?_
    | with_reducible refine FO.s1 ?_
    | with_reducible refine FO.s2 ?_
    | with_reducible refine FO.s3 ?_
    | with_reducible refine FO.a ?_ (by intro j; unfold KI; omega)
    | with_reducible refine FO.z ?_ (by unfold KI; omega)
    | with_reducible refine FO.m ?_ ?_
    | with_reducible refine FO.o2 ?_ ?_
    | with_reducible refine FO.o3 ?_ ?_
    | with_reducible refine FO.pm ?_ ?_
    | with_reducible refine FO.i ?_ ?_
    | with_reducible refine FO.b ?_
    | with_reducible refine FO.o2v ?_
    | with_reducible refine FO.p ?_
    | omega
    | intro _
theorem fm_X5_blow_L99 {b : Nat} {a4 : Int32} (hb : 1 ≤ b ∧ (b ≤ 37 ∨ 65 ≤ b)) : ∀ (n : Nat) (y0 : Int32) (I : Mem), FO KI (fun M => M) I (fX5_blow_L99 b a4 n y0 I) := by
  intro n
  induction n with
  | zero => intro y0 I; rw [fX5_blow_L99]; exact FO.n
  | succ n ih =>
    intro y0 I
    rw [fX5_blow_L99]
    repeat' first
      | with_reducible exact Kp.r
      | with_reducible assumption
      | with_reducible refine Kp.w ?_ (by unfold KI; omega)
      | with_reducible refine Kp.i ?_ ?_
      | with_reducible refine FO.s1 ?_
      | with_reducible refine FO.s2 ?_
      | with_reducible refine FO.s3 ?_
      | with_reducible refine FO.a ?_ (by intro j; unfold KI; omega)
      | with_reducible refine FO.z ?_ (by unfold KI; omega)
      | with_reducible refine FO.tr ?_ (fm_X0_putUnderSuspicion ?_)
      | with_reducible refine FO.tr ?_ (ih _ _)
      | with_reducible refine FO.m ?_ ?_
      | with_reducible refine FO.o2 ?_ ?_
      | with_reducible refine FO.o3 ?_ ?_
      | with_reducible refine FO.pm ?_ ?_
      | with_reducible refine FO.i ?_ ?_
      | with_reducible refine FO.b ?_
      | with_reducible refine FO.o2v ?_
      | with_reducible refine FO.p ?_
      | omega
      | intro _
theorem fm_X5_blow {b : Nat} {a1 : Int32} {a2 : Int32} {a3 : Int32} {I : Mem} (hb : 1 ≤ b ∧ (b ≤ 37 ∨ 65 ≤ b)) : FO KI Prod.snd I (fX5_blow b a1 a2 a3 I) := by
  unfold fX5_blow
  repeat' first
    | with_reducible exact Kp.r
    | with_reducible assumption
    | with_reducible refine Kp.w ?_ (by unfold KI; omega)
    | with_reducible refine Kp.i ?_ ?_
    | with_reducible refine FO.s1 ?_
    | with_reducible refine FO.s2 ?_
    | with_reducible refine FO.s3 ?_
    | with_reducible refine FO.a ?_ (by intro j; unfold KI; omega)
    | with_reducible refine FO.z ?_ (by unfold KI; omega)
    | with_reducible refine FO.tr ?_ (fm_X5_blow_L21 ?_ _ _ _)
    | with_reducible refine FO.tr ?_ (fm_X5_blow_L99 ?_ _ _ _)
    | with_reducible refine FO.m ?_ ?_
    | with_reducible refine FO.o2 ?_ ?_
    | with_reducible refine FO.o3 ?_ ?_
    | with_reducible refine FO.pm ?_ ?_
    | with_reducible refine FO.i ?_ ?_
    | with_reducible refine FO.b ?_
    | with_reducible refine FO.o2v ?_
    | with_reducible refine FO.p ?_
    | omega
    | intro _
theorem fm_X7_storm {a1 : Int32} {a2 : Int32} {a3 : Int32} {I : Mem}  : FO KI (fun t => t.2.2) I (fX7_storm a1 a2 a3 I) := by
  unfold fX7_storm
  repeat' first
    | with_reducible exact Kp.r
    | with_reducible assumption
    | with_reducible refine Kp.w ?_ (by unfold KI; omega)
    | with_reducible refine Kp.i ?_ ?_
    | with_reducible refine FO.s1 ?_
    | with_reducible refine FO.s2 ?_
    | with_reducible refine FO.s3 ?_
    | with_reducible refine FO.a ?_ (by intro j; unfold KI; omega)
    | with_reducible refine FO.z ?_ (by unfold KI; omega)
    | with_reducible refine FO.tr ?_ (fm_begin)
    | with_reducible refine FO.tr ?_ (fm_X5_blow ?_)
    | with_reducible refine FO.m ?_ ?_
    | with_reducible refine FO.o2 ?_ ?_
    | with_reducible refine FO.o3 ?_ ?_
    | with_reducible refine FO.pm ?_ ?_
    | with_reducible refine FO.i ?_ ?_
    | with_reducible refine FO.b ?_
    | with_reducible refine FO.o2v ?_
    | with_reducible refine FO.p ?_
    | omega
    | intro _
theorem fm_X7_refuse {a1 : Int32} {I : Mem}  : FO KI Prod.snd I (fX7_refuse a1 I) := by
  unfold fX7_refuse
  repeat' first
    | with_reducible exact Kp.r
    | with_reducible assumption
    | with_reducible refine Kp.w ?_ (by unfold KI; omega)
    | with_reducible refine Kp.i ?_ ?_
    | with_reducible refine FO.s1 ?_
    | with_reducible refine FO.s2 ?_
    | with_reducible refine FO.s3 ?_
    | with_reducible refine FO.a ?_ (by intro j; unfold KI; omega)
    | with_reducible refine FO.z ?_ (by unfold KI; omega)
    | with_reducible refine FO.m ?_ ?_
    | with_reducible refine FO.o2 ?_ ?_
    | with_reducible refine FO.o3 ?_ ?_
    | with_reducible refine FO.pm ?_ ?_
    | with_reducible refine FO.i ?_ ?_
    | with_reducible refine FO.b ?_
    | with_reducible refine FO.o2v ?_
    | with_reducible refine FO.p ?_
    | omega
    | intro _
theorem fm_X5_renew_L8 {b : Nat} {a2 : Int32} {a1 : Int32} (hb : 1 ≤ b ∧ (b ≤ 37 ∨ 65 ≤ b)) : ∀ (n : Nat) (y0 : Int32) (I : Mem), FO KI (fun M => M) I (fX5_renew_L8 b a2 a1 n y0 I) := by
  intro n
  induction n with
  | zero => intro y0 I; rw [fX5_renew_L8]; exact FO.n
  | succ n ih =>
    intro y0 I
    rw [fX5_renew_L8]
    repeat' first
      | with_reducible exact Kp.r
      | with_reducible assumption
      | with_reducible refine Kp.w ?_ (by unfold KI; omega)
      | with_reducible refine Kp.i ?_ ?_
      | with_reducible refine FO.s1 ?_
      | with_reducible refine FO.s2 ?_
      | with_reducible refine FO.s3 ?_
      | with_reducible refine FO.a ?_ (by intro j; unfold KI; omega)
      | with_reducible refine FO.z ?_ (by unfold KI; omega)
      | with_reducible refine FO.tr ?_ (ih _ _)
      | with_reducible refine FO.m ?_ ?_
      | with_reducible refine FO.o2 ?_ ?_
      | with_reducible refine FO.o3 ?_ ?_
      | with_reducible refine FO.pm ?_ ?_
      | with_reducible refine FO.i ?_ ?_
      | with_reducible refine FO.b ?_
      | with_reducible refine FO.o2v ?_
      | with_reducible refine FO.p ?_
      | omega
      | intro _
theorem fm_X5_renew {b : Nat} {a1 : Int32} {I : Mem} (hb : 1 ≤ b ∧ (b ≤ 37 ∨ 65 ≤ b)) : FO KI (fun M => M) I (fX5_renew b a1 I) := by
  unfold fX5_renew
  repeat' first
    | with_reducible exact Kp.r
    | with_reducible assumption
    | with_reducible refine Kp.w ?_ (by unfold KI; omega)
    | with_reducible refine Kp.i ?_ ?_
    | with_reducible refine FO.s1 ?_
    | with_reducible refine FO.s2 ?_
    | with_reducible refine FO.s3 ?_
    | with_reducible refine FO.a ?_ (by intro j; unfold KI; omega)
    | with_reducible refine FO.z ?_ (by unfold KI; omega)
    | with_reducible refine FO.tr ?_ (fm_X5_renew_L8 ?_ _ _ _)
    | with_reducible refine FO.m ?_ ?_
    | with_reducible refine FO.o2 ?_ ?_
    | with_reducible refine FO.o3 ?_ ?_
    | with_reducible refine FO.pm ?_ ?_
    | with_reducible refine FO.i ?_ ?_
    | with_reducible refine FO.b ?_
    | with_reducible refine FO.o2v ?_
    | with_reducible refine FO.p ?_
    | omega
    | intro _
theorem fm_X7_remake {a1 : Int32} {I : Mem}  : FO KI (fun t => t.2.2) I (fX7_remake a1 I) := by
  unfold fX7_remake
  repeat' first
    | with_reducible exact Kp.r
    | with_reducible assumption
    | with_reducible refine Kp.w ?_ (by unfold KI; omega)
    | with_reducible refine Kp.i ?_ ?_
    | with_reducible refine FO.s1 ?_
    | with_reducible refine FO.s2 ?_
    | with_reducible refine FO.s3 ?_
    | with_reducible refine FO.a ?_ (by intro j; unfold KI; omega)
    | with_reducible refine FO.z ?_ (by unfold KI; omega)
    | with_reducible refine FO.tr ?_ (fm_X7_refuse)
    | with_reducible refine FO.tr ?_ (fm_begin)
    | with_reducible refine FO.tr ?_ (fm_X5_renew ?_)
    | with_reducible refine FO.m ?_ ?_
    | with_reducible refine FO.o2 ?_ ?_
    | with_reducible refine FO.o3 ?_ ?_
    | with_reducible refine FO.pm ?_ ?_
    | with_reducible refine FO.i ?_ ?_
    | with_reducible refine FO.b ?_
    | with_reducible refine FO.o2v ?_
    | with_reducible refine FO.p ?_
    | omega
    | intro _
theorem fm_X7_remakeBy {a1 : Int32} {I : Mem}  : FO KI (fun t => t.2.2) I (fX7_remakeBy a1 I) := by
  unfold fX7_remakeBy
  repeat' first
    | with_reducible exact Kp.r
    | with_reducible assumption
    | with_reducible refine Kp.w ?_ (by unfold KI; omega)
    | with_reducible refine Kp.i ?_ ?_
    | with_reducible refine FO.s1 ?_
    | with_reducible refine FO.s2 ?_
    | with_reducible refine FO.s3 ?_
    | with_reducible refine FO.a ?_ (by intro j; unfold KI; omega)
    | with_reducible refine FO.z ?_ (by unfold KI; omega)
    | with_reducible refine FO.tr ?_ (fm_X7_refuse)
    | with_reducible refine FO.tr ?_ (fm_begin)
    | with_reducible refine FO.tr ?_ (fm_X5_renew ?_)
    | with_reducible refine FO.m ?_ ?_
    | with_reducible refine FO.o2 ?_ ?_
    | with_reducible refine FO.o3 ?_ ?_
    | with_reducible refine FO.pm ?_ ?_
    | with_reducible refine FO.i ?_ ?_
    | with_reducible refine FO.b ?_
    | with_reducible refine FO.o2v ?_
    | with_reducible refine FO.p ?_
    | omega
    | intro _
theorem fm_X7_haul {a1 : Int32} {I : Mem}  : FO KI (fun t => t.2.2) I (fX7_haul a1 I) := by
  unfold fX7_haul
  repeat' first
    | with_reducible exact Kp.r
    | with_reducible assumption
    | with_reducible refine Kp.w ?_ (by unfold KI; omega)
    | with_reducible refine Kp.i ?_ ?_
    | with_reducible refine FO.s1 ?_
    | with_reducible refine FO.s2 ?_
    | with_reducible refine FO.s3 ?_
    | with_reducible refine FO.a ?_ (by intro j; unfold KI; omega)
    | with_reducible refine FO.z ?_ (by unfold KI; omega)
    | with_reducible refine FO.tr ?_ (fm_begin)
    | with_reducible refine FO.tr ?_ (fm_X0_putUnderSuspicion ?_)
    | with_reducible refine FO.tr ?_ (fm_X7_refuse)
    | with_reducible refine FO.m ?_ ?_
    | with_reducible refine FO.o2 ?_ ?_
    | with_reducible refine FO.o3 ?_ ?_
    | with_reducible refine FO.pm ?_ ?_
    | with_reducible refine FO.i ?_ ?_
    | with_reducible refine FO.b ?_
    | with_reducible refine FO.o2v ?_
    | with_reducible refine FO.p ?_
    | omega
    | intro _
theorem fm_X7_addStock {a1 : Int32} {I : Mem}  : FO KI (fun t => t.2.2) I (fX7_addStock a1 I) := by
  unfold fX7_addStock
  repeat' first
    | with_reducible exact Kp.r
    | with_reducible assumption
    | with_reducible refine Kp.w ?_ (by unfold KI; omega)
    | with_reducible refine Kp.i ?_ ?_
    | with_reducible refine FO.s1 ?_
    | with_reducible refine FO.s2 ?_
    | with_reducible refine FO.s3 ?_
    | with_reducible refine FO.a ?_ (by intro j; unfold KI; omega)
    | with_reducible refine FO.z ?_ (by unfold KI; omega)
    | with_reducible refine FO.tr ?_ (fm_begin)
    | with_reducible refine FO.tr ?_ (fm_X7_refuse)
    | with_reducible refine FO.m ?_ ?_
    | with_reducible refine FO.o2 ?_ ?_
    | with_reducible refine FO.o3 ?_ ?_
    | with_reducible refine FO.pm ?_ ?_
    | with_reducible refine FO.i ?_ ?_
    | with_reducible refine FO.b ?_
    | with_reducible refine FO.o2v ?_
    | with_reducible refine FO.p ?_
    | omega
    | intro _
