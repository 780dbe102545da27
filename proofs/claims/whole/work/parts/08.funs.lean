/-! THE METHODS AS FUNCTIONS (by program out of the decode rows): none where an index leaves its row, a divisor is 0 or a loop's fuel runs out -/
def zF : Nat := 4000
def zb_ln (k : Nat) : Nat := (zb_kd k).2
def zb_sl (w : Nat) : Int32 := Int32.ofNat (zb_len.getD w 0)
def zb_sc (w : Nat) (i : Int32) : Option Int32 := if i < 0 ∨ zb_len.getD w 0 ≤ i.toNatClampNeg then none else some ((zb_byt.getD w []).getD i.toNatClampNeg 0)
def fdvn (x y : UInt32) : Option UInt32 := if FP.fdiv x y &&& 0x7fffffff ≤ 0x7f800000 then some (FP.fdiv x y) else none
def ddvn (x y : UInt64) : Option UInt64 := if FP.ddiv x y &&& 0x7fffffffffffffff ≤ 0x7ff0000000000000 then some (FP.ddiv x y) else none
def ob2 {A B Z : Type} (o : Option (A × B)) (f : A → B → Option Z) : Option Z := o.bind fun t => f t.1 t.2
def pl2 {A B Z : Type} (t : A × B) (f : A → B → Z) : Z := f t.1 t.2
theorem ob2_e {A B Z : Type} {o : Option (A × B)} {f : A → B → Option Z} {r : Z} (h : ob2 o f = some r) : ∃ x0 x1, o = some (x0, x1) ∧ f x0 x1 = some r := by
  obtain ⟨⟨x0, x1⟩, h1, h2⟩ := Option.bind_eq_some_iff.mp h
  exact ⟨x0, x1, h1, h2⟩
theorem pl2_e {A B Z : Type} {t : A × B} {f : A → B → Z} {r : Z} (h : pl2 t f = r) : ∃ x0 x1, t = (x0, x1) ∧ f x0 x1 = r := ⟨t.1, t.2, rfl, h⟩
theorem ob2_some {A B Z : Type} {f : A → B → Option Z} {x0 : A} {x1 : B} : ob2 (some (x0, x1)) f = f x0 x1 := rfl
theorem pl2_mk {A B Z : Type} {f : A → B → Z} {x0 : A} {x1 : B} : pl2 (x0, x1) f = f x0 x1 := rfl
def ob3 {A B C Z : Type} (o : Option (A × B × C)) (f : A → B → C → Option Z) : Option Z := o.bind fun t => f t.1 t.2.1 t.2.2
def pl3 {A B C Z : Type} (t : A × B × C) (f : A → B → C → Z) : Z := f t.1 t.2.1 t.2.2
theorem ob3_e {A B C Z : Type} {o : Option (A × B × C)} {f : A → B → C → Option Z} {r : Z} (h : ob3 o f = some r) : ∃ x0 x1 x2, o = some (x0, x1, x2) ∧ f x0 x1 x2 = some r := by
  obtain ⟨⟨x0, x1, x2⟩, h1, h2⟩ := Option.bind_eq_some_iff.mp h
  exact ⟨x0, x1, x2, h1, h2⟩
theorem pl3_e {A B C Z : Type} {t : A × B × C} {f : A → B → C → Z} {r : Z} (h : pl3 t f = r) : ∃ x0 x1 x2, t = (x0, x1, x2) ∧ f x0 x1 x2 = r := ⟨t.1, t.2.1, t.2.2, rfl, h⟩
theorem ob3_some {A B C Z : Type} {f : A → B → C → Option Z} {x0 : A} {x1 : B} {x2 : C} : ob3 (some (x0, x1, x2)) f = f x0 x1 x2 := rfl
theorem pl3_mk {A B C Z : Type} {f : A → B → C → Z} {x0 : A} {x1 : B} {x2 : C} : pl3 (x0, x1, x2) f = f x0 x1 x2 := rfl
def ob4 {A B C D Z : Type} (o : Option (A × B × C × D)) (f : A → B → C → D → Option Z) : Option Z := o.bind fun t => f t.1 t.2.1 t.2.2.1 t.2.2.2
def pl4 {A B C D Z : Type} (t : A × B × C × D) (f : A → B → C → D → Z) : Z := f t.1 t.2.1 t.2.2.1 t.2.2.2
theorem ob4_e {A B C D Z : Type} {o : Option (A × B × C × D)} {f : A → B → C → D → Option Z} {r : Z} (h : ob4 o f = some r) : ∃ x0 x1 x2 x3, o = some (x0, x1, x2, x3) ∧ f x0 x1 x2 x3 = some r := by
  obtain ⟨⟨x0, x1, x2, x3⟩, h1, h2⟩ := Option.bind_eq_some_iff.mp h
  exact ⟨x0, x1, x2, x3, h1, h2⟩
theorem pl4_e {A B C D Z : Type} {t : A × B × C × D} {f : A → B → C → D → Z} {r : Z} (h : pl4 t f = r) : ∃ x0 x1 x2 x3, t = (x0, x1, x2, x3) ∧ f x0 x1 x2 x3 = r := ⟨t.1, t.2.1, t.2.2.1, t.2.2.2, rfl, h⟩
theorem ob4_some {A B C D Z : Type} {f : A → B → C → D → Option Z} {x0 : A} {x1 : B} {x2 : C} {x3 : D} : ob4 (some (x0, x1, x2, x3)) f = f x0 x1 x2 x3 := rfl
theorem pl4_mk {A B C D Z : Type} {f : A → B → C → D → Z} {x0 : A} {x1 : B} {x2 : C} {x3 : D} : pl4 (x0, x1, x2, x3) f = f x0 x1 x2 x3 := rfl
def ob5 {A B C D E Z : Type} (o : Option (A × B × C × D × E)) (f : A → B → C → D → E → Option Z) : Option Z := o.bind fun t => f t.1 t.2.1 t.2.2.1 t.2.2.2.1 t.2.2.2.2
def pl5 {A B C D E Z : Type} (t : A × B × C × D × E) (f : A → B → C → D → E → Z) : Z := f t.1 t.2.1 t.2.2.1 t.2.2.2.1 t.2.2.2.2
theorem ob5_e {A B C D E Z : Type} {o : Option (A × B × C × D × E)} {f : A → B → C → D → E → Option Z} {r : Z} (h : ob5 o f = some r) : ∃ x0 x1 x2 x3 x4, o = some (x0, x1, x2, x3, x4) ∧ f x0 x1 x2 x3 x4 = some r := by
  obtain ⟨⟨x0, x1, x2, x3, x4⟩, h1, h2⟩ := Option.bind_eq_some_iff.mp h
  exact ⟨x0, x1, x2, x3, x4, h1, h2⟩
theorem pl5_e {A B C D E Z : Type} {t : A × B × C × D × E} {f : A → B → C → D → E → Z} {r : Z} (h : pl5 t f = r) : ∃ x0 x1 x2 x3 x4, t = (x0, x1, x2, x3, x4) ∧ f x0 x1 x2 x3 x4 = r := ⟨t.1, t.2.1, t.2.2.1, t.2.2.2.1, t.2.2.2.2, rfl, h⟩
theorem ob5_some {A B C D E Z : Type} {f : A → B → C → D → E → Option Z} {x0 : A} {x1 : B} {x2 : C} {x3 : D} {x4 : E} : ob5 (some (x0, x1, x2, x3, x4)) f = f x0 x1 x2 x3 x4 := rfl
theorem pl5_mk {A B C D E Z : Type} {f : A → B → C → D → E → Z} {x0 : A} {x1 : B} {x2 : C} {x3 : D} {x4 : E} : pl5 (x0, x1, x2, x3, x4) f = f x0 x1 x2 x3 x4 := rfl
def ob6 {A B C D E F Z : Type} (o : Option (A × B × C × D × E × F)) (f : A → B → C → D → E → F → Option Z) : Option Z := o.bind fun t => f t.1 t.2.1 t.2.2.1 t.2.2.2.1 t.2.2.2.2.1 t.2.2.2.2.2
def pl6 {A B C D E F Z : Type} (t : A × B × C × D × E × F) (f : A → B → C → D → E → F → Z) : Z := f t.1 t.2.1 t.2.2.1 t.2.2.2.1 t.2.2.2.2.1 t.2.2.2.2.2
theorem ob6_e {A B C D E F Z : Type} {o : Option (A × B × C × D × E × F)} {f : A → B → C → D → E → F → Option Z} {r : Z} (h : ob6 o f = some r) : ∃ x0 x1 x2 x3 x4 x5, o = some (x0, x1, x2, x3, x4, x5) ∧ f x0 x1 x2 x3 x4 x5 = some r := by
  obtain ⟨⟨x0, x1, x2, x3, x4, x5⟩, h1, h2⟩ := Option.bind_eq_some_iff.mp h
  exact ⟨x0, x1, x2, x3, x4, x5, h1, h2⟩
theorem pl6_e {A B C D E F Z : Type} {t : A × B × C × D × E × F} {f : A → B → C → D → E → F → Z} {r : Z} (h : pl6 t f = r) : ∃ x0 x1 x2 x3 x4 x5, t = (x0, x1, x2, x3, x4, x5) ∧ f x0 x1 x2 x3 x4 x5 = r := ⟨t.1, t.2.1, t.2.2.1, t.2.2.2.1, t.2.2.2.2.1, t.2.2.2.2.2, rfl, h⟩
theorem ob6_some {A B C D E F Z : Type} {f : A → B → C → D → E → F → Option Z} {x0 : A} {x1 : B} {x2 : C} {x3 : D} {x4 : E} {x5 : F} : ob6 (some (x0, x1, x2, x3, x4, x5)) f = f x0 x1 x2 x3 x4 x5 := rfl
theorem pl6_mk {A B C D E F Z : Type} {f : A → B → C → D → E → F → Z} {x0 : A} {x1 : B} {x2 : C} {x3 : D} {x4 : E} {x5 : F} : pl6 (x0, x1, x2, x3, x4, x5) f = f x0 x1 x2 x3 x4 x5 := rfl
def ob7 {A B C D E F G Z : Type} (o : Option (A × B × C × D × E × F × G)) (f : A → B → C → D → E → F → G → Option Z) : Option Z := o.bind fun t => f t.1 t.2.1 t.2.2.1 t.2.2.2.1 t.2.2.2.2.1 t.2.2.2.2.2.1 t.2.2.2.2.2.2
def pl7 {A B C D E F G Z : Type} (t : A × B × C × D × E × F × G) (f : A → B → C → D → E → F → G → Z) : Z := f t.1 t.2.1 t.2.2.1 t.2.2.2.1 t.2.2.2.2.1 t.2.2.2.2.2.1 t.2.2.2.2.2.2
theorem ob7_e {A B C D E F G Z : Type} {o : Option (A × B × C × D × E × F × G)} {f : A → B → C → D → E → F → G → Option Z} {r : Z} (h : ob7 o f = some r) : ∃ x0 x1 x2 x3 x4 x5 x6, o = some (x0, x1, x2, x3, x4, x5, x6) ∧ f x0 x1 x2 x3 x4 x5 x6 = some r := by
  obtain ⟨⟨x0, x1, x2, x3, x4, x5, x6⟩, h1, h2⟩ := Option.bind_eq_some_iff.mp h
  exact ⟨x0, x1, x2, x3, x4, x5, x6, h1, h2⟩
theorem pl7_e {A B C D E F G Z : Type} {t : A × B × C × D × E × F × G} {f : A → B → C → D → E → F → G → Z} {r : Z} (h : pl7 t f = r) : ∃ x0 x1 x2 x3 x4 x5 x6, t = (x0, x1, x2, x3, x4, x5, x6) ∧ f x0 x1 x2 x3 x4 x5 x6 = r := ⟨t.1, t.2.1, t.2.2.1, t.2.2.2.1, t.2.2.2.2.1, t.2.2.2.2.2.1, t.2.2.2.2.2.2, rfl, h⟩
theorem ob7_some {A B C D E F G Z : Type} {f : A → B → C → D → E → F → G → Option Z} {x0 : A} {x1 : B} {x2 : C} {x3 : D} {x4 : E} {x5 : F} {x6 : G} : ob7 (some (x0, x1, x2, x3, x4, x5, x6)) f = f x0 x1 x2 x3 x4 x5 x6 := rfl
theorem pl7_mk {A B C D E F G Z : Type} {f : A → B → C → D → E → F → G → Z} {x0 : A} {x1 : B} {x2 : C} {x3 : D} {x4 : E} {x5 : F} {x6 : G} : pl7 (x0, x1, x2, x3, x4, x5, x6) f = f x0 x1 x2 x3 x4 x5 x6 := rfl

def fX0_copyFrom (b : Nat) (b1 : Nat) (I : Mem) : Option Mem :=
  some (cpy (cpy (cpy (cpy (cpy (cpy (cpy (cpy (cpy (wr (wr I (b + 1) 0 (I (b1 + 1) 0)) (b + 1) 1 ((wr I (b + 1) 0 (I (b1 + 1) 0)) (b1 + 1) 1)) (b1 + 2) 0 (b + 2) 0 10) (b1 + 3) 0 (b + 3) 0 10) (b1 + 4) 0 (b + 4) 0 10) (b1 + 5) 0 (b + 5) 0 10) (b1 + 6) 0 (b + 6) 0 10) (b1 + 7) 0 (b + 7) 0 10) (b1 + 8) 0 (b + 8) 0 10) (b1 + 9) 0 (b + 9) 0 10) (b1 + 10) 0 (b + 10) 0 10)
def fX0_add (b : Nat) (a1 : Int32) (a2 : Int32) (a3 : Int32) (a4 : Int32) (I : Mem) : Option Mem :=
  if (I (b + 1) 0) < (10 : Int32) then
    Option.bind (ast I (b + 2) 10 (I (b + 1) 0) a1) fun I1 =>
    Option.bind (ast I1 (b + 3) 10 (I1 (b + 1) 0) a2) fun I2 =>
    Option.bind (ast I2 (b + 4) 10 (I2 (b + 1) 0) a3) fun I3 =>
    Option.bind (ast I3 (b + 5) 10 (I3 (b + 1) 0) a4) fun I4 =>
    Option.bind (ast I4 (b + 6) 10 (I4 (b + 1) 0) (0 : Int32)) fun I5 =>
    Option.bind (ast I5 (b + 7) 10 (I5 (b + 1) 0) (0 : Int32)) fun I6 =>
    Option.bind (ast I6 (b + 8) 10 (I6 (b + 1) 0) (0 : Int32)) fun I7 =>
    Option.bind (ast I7 (b + 9) 10 (I7 (b + 1) 0) (-1 : Int32)) fun I8 =>
    Option.bind (ast I8 (b + 10) 10 (I8 (b + 1) 0) (0 : Int32)) fun I9 =>
    some (wr I9 (b + 1) 0 ((I9 (b + 1) 0) + (1 : Int32)))
  else
    some I
def fX0_lastHome (b : Nat) (I : Mem) : Option Int32 :=
  Option.bind (
      if (I (b + 1) 0) ≤ 0 then
        some (-1 : Int32)
      else
        Option.bind (ald I (b + 2) 10 ((I (b + 1) 0) - (1 : Int32))) fun x1 =>
        some x1) fun x2 =>
  some x2
def fX0_distanceBehind (b : Nat) (a1 : Int32) (I : Mem) : Option Int32 :=
  Option.bind (
      if a1 < 0 then
        some (0 : Int32)
      else
        if (I (b + 1) 0) ≤ (a1 + (1 : Int32)) then
          some (0 : Int32)
        else
          Option.bind (ald I (b + 2) 10 (a1 + (1 : Int32))) fun x1 =>
          Option.bind (ald I (b + 2) 10 a1) fun x2 =>
          some (x1 - x2)) fun x3 =>
  some x3
def fX0_membersIn_L4 (b : Nat) (a1 : Int32) : Nat → Int32 → Int32 → Mem → Option Int32
  | 0, _, _, _ => none
  | n9+1, a3, a2, I =>
    if (I (b + 1) 0) ≤ a3 then
      some a2
    else
      Option.bind (ald I (b + 6) 10 a3) fun x1 =>
      plet (
          if x1 = a1 then
            (a2 ||| ((1 : Int32) <<< (a3 &&& 31)))
          else
            a2) fun x2 =>
      fX0_membersIn_L4 b a1 n9 (a3 + (1 : Int32)) x2 I
def fX0_membersIn (b : Nat) (a1 : Int32) (I : Mem) : Option Int32 :=
  Option.bind (fX0_membersIn_L4 b a1 zF (0 : Int32) (0 : Int32) I) fun x3 =>
  some x3
def fX7_has (a0 : Int32) (a1 : Int32) : Option Int32 :=
  plet (
      if ((a0 >>> (a1 &&& 31)) &&& (1 : Int32)) = (1 : Int32) then
        (1 : Int32)
      else
        (0 : Int32)) fun x1 =>
  Option.bind (zbo x1) fun v9 =>
  some v9
def fX0_votesOf_L4 (b : Nat) (a1 : Int32) : Nat → Int32 → Int32 → Mem → Option Int32
  | 0, _, _, _ => none
  | n9+1, a3, a2, I =>
    if (I (b + 1) 0) ≤ a3 then
      some a2
    else
      Option.bind (fX7_has a1 a3) fun x1 =>
      Option.bind (
          if x1 = 0 then
            some a2
          else
            Option.bind (ald I (b + 3) 10 a3) fun x2 =>
            some (a2 + x2)) fun x3 =>
      fX0_votesOf_L4 b a1 n9 (a3 + (1 : Int32)) x3 I
def fX0_votesOf (b : Nat) (a1 : Int32) (I : Mem) : Option Int32 :=
  Option.bind (fX0_votesOf_L4 b a1 zF (0 : Int32) (0 : Int32) I) fun x4 =>
  some x4
def fX0_tellValues_L2 (b : Nat) (k1 : Nat) (a2 : Int32) : Nat → Int32 → Mem → Option Mem
  | 0, _, _ => none
  | n9+1, a3, I =>
    if (I (b + 1) 0) ≤ a3 then
      some I
    else
      Option.bind (
          if a2 < 0 then
            some I
          else
            if (Int32.ofNat (zb_ln k1)) ≤ (a2 + a3) then
              some I
            else
              Option.bind (fX7_has (I (b + 1) 1) a3) fun x1 =>
              Option.bind (
                  if x1 = 0 then
                    some (0 : Int32)
                  else
                    Option.bind (ald I (b + 10) 10 a3) fun x2 =>
                    Option.bind (ald I (b + 5) 10 a3) fun x3 =>
                    some (x2 - x3)) fun x4 =>
              Option.bind (ast I k1 (zb_ln k1) (a2 + a3) x4) fun I5 =>
              some I5) fun I6 =>
      fX0_tellValues_L2 b k1 a2 n9 (a3 + (1 : Int32)) I6
def fX0_tellValues (b : Nat) (k1 : Nat) (a2 : Int32) (I : Mem) : Option Mem :=
  Option.bind (fX0_tellValues_L2 b k1 a2 zF (0 : Int32) I) fun I7 =>
  some I7
def fX0_forgetReports_L7 (b : Nat) : Nat → Int32 → Mem → Option Mem
  | 0, _, _ => none
  | n9+1, a1, I =>
    if (10 : Int32) ≤ a1 then
      some I
    else
      Option.bind (ast I (b + 10) 10 a1 (0 : Int32)) fun I1 =>
      fX0_forgetReports_L7 b n9 (a1 + (1 : Int32)) I1
def fX0_forgetReports (b : Nat) (I : Mem) : Option Mem :=
  Option.bind (fX0_forgetReports_L7 b zF (0 : Int32) (wr I (b + 1) 1 (0 : Int32))) fun I2 =>
  some I2
def fX0_putUnderSuspicion (b : Nat) (a1 : Int32) (I : Mem) : Option Mem :=
  if a1 < 0 then
    some I
  else
    if a1 < (I (b + 1) 0) then
      Option.bind (ast I (b + 6) 10 a1 (1 : Int32)) fun I1 =>
      Option.bind (ast I1 (b + 7) 10 a1 (0 : Int32)) fun I2 =>
      Option.bind (ast I2 (b + 8) 10 a1 (0 : Int32)) fun I3 =>
      Option.bind (ast I3 (b + 9) 10 a1 (-1 : Int32)) fun I4 =>
      some I4
    else
      some I
def fX1_copyFrom (b : Nat) (b1 : Nat) (I : Mem) : Option Mem :=
  some (cpy (cpy (cpy (cpy (cpy (cpy (cpy (cpy (cpy I (b1 + 15) 0 (b + 15) 0 24) (b1 + 16) 0 (b + 16) 0 24) (b1 + 17) 0 (b + 17) 0 24) (b1 + 18) 0 (b + 18) 0 24) (b1 + 19) 0 (b + 19) 0 24) (b1 + 20) 0 (b + 20) 0 24) (b1 + 21) 0 (b + 21) 0 24) (b1 + 22) 0 (b + 22) 0 24) (b1 + 23) 0 (b + 23) 0 240)
def fX2_addBytes_L3 (a1 : Int32) : Nat → Int32 → Mem → Option Mem
  | 0, _, _ => none
  | n9+1, a2, I =>
    if a2 < 0 then
      some I
    else
      Option.bind (
          if ((a1 >>> (a2 &&& 31)) &&& (255 : Int32)) = 0 then
            some I
          else
            if (500 : Int32) ≤ (I 56 1) then
              some I
            else
              Option.bind (ast I 57 500 (I 56 1) ((a1 >>> (a2 &&& 31)) &&& (255 : Int32))) fun I1 =>
              some (wr I1 56 1 ((I1 56 1) + (1 : Int32)))) fun I2 =>
      fX2_addBytes_L3 a1 n9 (a2 + (-8 : Int32)) I2
def fX2_addBytes (a1 : Int32) (I : Mem) : Option Mem :=
  Option.bind (fX2_addBytes_L3 a1 zF (24 : Int32) I) fun I3 =>
  some I3
def fX2_kindOfByte (a1 : Int32) (I : Mem) : Option Int32 :=
  Option.bind (
      if a1 < 0 then
        some (32 : Int32)
      else
        if (I 56 1) ≤ a1 then
          some (32 : Int32)
        else
          Option.bind (ald I 57 500 a1) fun x1 =>
          some x1) fun x2 =>
  if x2 < (97 : Int32) then
    if x2 < (48 : Int32) then
      if x2 = (32 : Int32) then
        some (5 : Int32)
      else
        if x2 = (10 : Int32) then
          some (5 : Int32)
        else
          plet (
              if x2 = (45 : Int32) then
                (2 : Int32)
              else
                if x2 = (59 : Int32) then
                  (3 : Int32)
                else
                  (4 : Int32)) fun x3 =>
          some x3
    else
      if (57 : Int32) < x2 then
        if x2 = (32 : Int32) then
          some (5 : Int32)
        else
          if x2 = (10 : Int32) then
            some (5 : Int32)
          else
            plet (
                if x2 = (45 : Int32) then
                  (2 : Int32)
                else
                  if x2 = (59 : Int32) then
                    (3 : Int32)
                  else
                    (4 : Int32)) fun x4 =>
            some x4
      else
        some (1 : Int32)
  else
    if (122 : Int32) < x2 then
      if x2 < (48 : Int32) then
        if x2 = (32 : Int32) then
          some (5 : Int32)
        else
          if x2 = (10 : Int32) then
            some (5 : Int32)
          else
            plet (
                if x2 = (45 : Int32) then
                  (2 : Int32)
                else
                  if x2 = (59 : Int32) then
                    (3 : Int32)
                  else
                    (4 : Int32)) fun x5 =>
            some x5
      else
        if (57 : Int32) < x2 then
          if x2 = (32 : Int32) then
            some (5 : Int32)
          else
            if x2 = (10 : Int32) then
              some (5 : Int32)
            else
              plet (
                  if x2 = (45 : Int32) then
                    (2 : Int32)
                  else
                    if x2 = (59 : Int32) then
                      (3 : Int32)
                    else
                      (4 : Int32)) fun x6 =>
              some x6
        else
          some (1 : Int32)
    else
      some (6 : Int32)
def fX2_spells_L30 (w : Nat) (a2 : Int32) : Nat → Int32 → Mem → Option (Nat × Int32)
  | 0, _, _ => none
  | n9+1, a4, I =>
    if (zb_sl w) ≤ a4 then
      some (0, 0)
    else
      Option.bind (ald I 57 500 (a2 + a4)) fun x2 =>
      Option.bind (zb_sc w a4) fun x3 =>
      if x2 = x3 then
        fX2_spells_L30 w a2 n9 (a4 + (1 : Int32)) I
      else
        some (1, (0 : Int32))
def fX2_spells (w : Nat) (a2 : Int32) (I : Mem) : Option Int32 :=
  if (I 56 1) < (a2 + (zb_sl w)) then
    Option.bind (zbo (0 : Int32)) fun v9 =>
    some v9
  else
    Option.bind (fX2_kindOfByte (a2 + (zb_sl w)) I) fun x1 =>
    if x1 = (6 : Int32) then
      Option.bind (zbo (0 : Int32)) fun v9 =>
      some v9
    else
      ob2 (fX2_spells_L30 w a2 zF (0 : Int32) I) fun t4 x5 =>
      if t4 = 1 then
        Option.bind (zbo x5) fun v9 =>
        some v9
      else
        Option.bind (zbo (1 : Int32)) fun v9 =>
        some v9
def fX2_wordAt (a1 : Int32) (I : Mem) : Option Int32 :=
  Option.bind (fX2_spells 0 a1 I) fun x1 =>
  if x1 = 0 then
    Option.bind (fX2_spells 1 a1 I) fun x2 =>
    if x2 = 0 then
      Option.bind (fX2_spells 2 a1 I) fun x3 =>
      if x3 = 0 then
        Option.bind (fX2_spells 3 a1 I) fun x4 =>
        if x4 = 0 then
          Option.bind (fX2_spells 4 a1 I) fun x5 =>
          if x5 = 0 then
            Option.bind (fX2_spells 5 a1 I) fun x6 =>
            if x6 = 0 then
              Option.bind (fX2_spells 6 a1 I) fun x7 =>
              if x7 = 0 then
                Option.bind (fX2_spells 7 a1 I) fun x8 =>
                if x8 = 0 then
                  Option.bind (fX2_spells 8 a1 I) fun x9 =>
                  plet (
                      if x9 = 0 then
                        (4 : Int32)
                      else
                        (15 : Int32)) fun x10 =>
                  some x10
                else
                  some (14 : Int32)
              else
                some (13 : Int32)
            else
              some (12 : Int32)
          else
            some (11 : Int32)
        else
          some (10 : Int32)
      else
        some (9 : Int32)
    else
      some (8 : Int32)
  else
    some (7 : Int32)
def fX2_scan_L6  : Nat → Int32 → Int32 → Int32 → Mem → Option (Int32 × Mem)
  | 0, _, _, _, _ => none
  | n9+1, a3, a2, a1, I =>
    if (I 56 1) ≤ a3 then
      some (a1, I)
    else
      Option.bind (fX2_kindOfByte a3 I) fun x1 =>
      plet (
          if x1 = a2 then
            if x1 = (6 : Int32) then
              (1 : Int32)
            else
              if x1 = (1 : Int32) then
                (1 : Int32)
              else
                (0 : Int32)
          else
            (0 : Int32)) fun x2 =>
      ob2 (
          if x1 = (5 : Int32) then
            some (a1, I)
          else
            if x2 = 0 then
              Option.bind (
                  if x1 = (6 : Int32) then
                    Option.bind (fX2_wordAt a3 I) fun x3 =>
                    some x3
                  else
                    some x1) fun x4 =>
              Option.bind (ast I 58 501 a1 x4) fun I5 =>
              Option.bind (ast I5 59 501 a1 a3) fun I6 =>
              Option.bind (ast I6 60 501 a1 (0 : Int32)) fun I7 =>
              some ((a1 + (1 : Int32)), I7)
            else
              some (a1, I)) fun x8 I9 =>
      Option.bind (
          if x1 = (1 : Int32) then
            if x8 ≤ 0 then
              some I9
            else
              Option.bind (ald I9 60 501 (x8 - (1 : Int32))) fun x10 =>
              Option.bind (ald I9 57 500 a3) fun x11 =>
              Option.bind (ast I9 60 501 (x8 - (1 : Int32)) (imin (1000000 : Int32) (((x10 * (10 : Int32)) + x11) - (48 : Int32)))) fun I12 =>
              some I12
          else
            some I9) fun I13 =>
      fX2_scan_L6 n9 (a3 + (1 : Int32)) x1 x8 I13
def fX2_scan (I : Mem) : Option Mem :=
  ob2 (fX2_scan_L6 zF (0 : Int32) (5 : Int32) (0 : Int32) I) fun x14 I15 =>
  Option.bind (ast I15 58 501 x14 (0 : Int32)) fun I16 =>
  Option.bind (ast I16 59 501 x14 (I16 56 1)) fun I17 =>
  some (wr (wr (wr I17 56 5 (0 : Int32)) 56 6 (0 : Int32)) 56 7 (-1 : Int32))
def fX2_kindNow (I : Mem) : Option Int32 :=
  Option.bind (
      if (I 56 5) < 0 then
        some (0 : Int32)
      else
        if (Int32.ofNat 501) ≤ (I 56 5) then
          some (0 : Int32)
        else
          Option.bind (ald I 58 501 (I 56 5)) fun x1 =>
          some x1) fun x2 =>
  some x2
def fX2_hasMore (I : Mem) : Option Int32 :=
  Option.bind (
      if (I 56 6) = 0 then
        Option.bind (fX2_kindNow I) fun x1 =>
        if x1 = 0 then
          some (0 : Int32)
        else
          some (1 : Int32)
      else
        some (0 : Int32)) fun x2 =>
  Option.bind (zbo x2) fun v9 =>
  some v9
def fX2_isAtSigned (I : Mem) : Option Int32 :=
  Option.bind (fX2_kindNow I) fun x1 =>
  Option.bind (
      if x1 = (1 : Int32) then
        some (1 : Int32)
      else
        Option.bind (fX2_kindNow I) fun x2 =>
        if x2 = (2 : Int32) then
          some (1 : Int32)
        else
          some (0 : Int32)) fun x3 =>
  Option.bind (zbo x3) fun v9 =>
  some v9
def fX2_fail (a1 : Int32) (I : Mem) : Option Mem :=
  Option.bind (
      if (I 56 6) = 0 then
        Option.bind (
            if ((wr I 56 6 a1) 56 5) < 0 then
              some ((wr I 56 6 a1) 56 1)
            else
              if (Int32.ofNat 501) ≤ ((wr I 56 6 a1) 56 5) then
                some ((wr I 56 6 a1) 56 1)
              else
                Option.bind (ald (wr I 56 6 a1) 59 501 ((wr I 56 6 a1) 56 5)) fun x1 =>
                some x1) fun x2 =>
        some (wr (wr I 56 6 a1) 56 7 x2)
      else
        some I) fun I3 =>
  some I3
def fX2_takeKind (a1 : Int32) (I : Mem) : Option Mem :=
  Option.bind (fX2_kindNow I) fun x1 =>
  Option.bind (
      if x1 = a1 then
        some I
      else
        Option.bind (fX2_fail (1 : Int32) I) fun I2 =>
        some I2) fun I3 =>
  Option.bind (
      if (I3 56 6) = 0 then
        Option.bind (fX2_kindNow I3) fun x4 =>
        if x4 = 0 then
          some I3
        else
          some (wr I3 56 5 ((I3 56 5) + (1 : Int32)))
      else
        some I3) fun I5 =>
  some I5
def fX2_lookNumber (a1 : Int32) (a2 : Int32) (I : Mem) : Option (Int32 × Mem) :=
  Option.bind (fX2_kindNow I) fun x1 =>
  Option.bind (
      if x1 = (1 : Int32) then
        Option.bind (ald I 60 501 (I 56 5)) fun x2 =>
        some x2
      else
        some a1) fun x3 =>
  Option.bind (fX2_kindNow I) fun x4 =>
  Option.bind (
      if x4 = (1 : Int32) then
        if x3 < a1 then
          Option.bind (fX2_fail (2 : Int32) I) fun I5 =>
          some I5
        else
          if x3 ≤ a2 then
            some I
          else
            Option.bind (fX2_fail (2 : Int32) I) fun I6 =>
            some I6
      else
        Option.bind (fX2_fail (1 : Int32) I) fun I7 =>
        some I7) fun I8 =>
  plet (
      if (I8 56 6) = 0 then
        x3
      else
        a1) fun x9 =>
  some (x9, I8)
def fX2_takeNumber (a1 : Int32) (a2 : Int32) (I : Mem) : Option (Int32 × Mem) :=
  ob2 (fX2_lookNumber a1 a2 I) fun x1 I2 =>
  Option.bind (fX2_takeKind (1 : Int32) I2) fun I3 =>
  some (x1, I3)
def fX2_takeSigned (a1 : Int32) (I : Mem) : Option (Int32 × Mem) :=
  Option.bind (fX2_kindNow I) fun x1 =>
  plet (
      if x1 = (2 : Int32) then
        (1 : Int32)
      else
        (0 : Int32)) fun x2 =>
  Option.bind (
      if x2 = 0 then
        some I
      else
        Option.bind (fX2_takeKind (2 : Int32) I) fun I3 =>
        some I3) fun I4 =>
  ob2 (fX2_takeNumber (0 : Int32) a1 I4) fun x5 I6 =>
  plet (
      if x2 = 0 then
        x5
      else
        (-x5)) fun x7 =>
  some (x7, I6)
def fX3_copyFrom (b : Nat) (b1 : Nat) (I : Mem) : Option Mem :=
  some (cpy (cpy (wr I (b + 11) 0 (I (b1 + 11) 0)) (b1 + 12) 0 (b + 12) 0 10) (b1 + 13) 0 (b + 13) 0 10)
def fX3_strengthen (b : Nat) (a1 : Int32) (a2 : Int32) (I : Mem) : Option Mem :=
  Option.bind (
      if a1 < 0 then
        some I
      else
        if (10 : Int32) ≤ a1 then
          some I
        else
          Option.bind (ast I (b + 12) 10 a1 a2) fun I1 =>
          some I1) fun I2 =>
  some I2
def fX3_clear_L7 (b : Nat) : Nat → Int32 → Mem → Option Mem
  | 0, _, _ => none
  | n9+1, a1, I =>
    if (10 : Int32) ≤ a1 then
      some I
    else
      Option.bind (ast I (b + 12) 10 a1 (10 : Int32)) fun I1 =>
      Option.bind (ast I1 (b + 13) 10 a1 (0 : Int32)) fun I2 =>
      fX3_clear_L7 b n9 (a1 + (1 : Int32)) I2
def fX3_clear (b : Nat) (I : Mem) : Option Mem :=
  Option.bind (fX3_clear_L7 b zF (0 : Int32) (wr I (b + 11) 0 (0 : Int32))) fun I3 =>
  some I3
def fX4_clear (I : Mem) : Option Mem :=
  Option.bind (ast (wr I 61 0 (0 : Int32)) 63 41 (0 : Int32) (0 : Int32)) fun I1 =>
  some I1
def fX4_begin (a1 : Int32) (I : Mem) : Option Mem :=
  Option.bind (
      if (40 : Int32) ≤ (I 61 0) then
        some I
      else
        Option.bind (ast I 62 40 (I 61 0) a1) fun I1 =>
        Option.bind (ald I1 63 41 (I1 61 0)) fun x2 =>
        Option.bind (ast I1 63 41 ((I1 61 0) + (1 : Int32)) x2) fun I3 =>
        some (wr I3 61 0 ((I3 61 0) + (1 : Int32)))) fun I4 =>
  some I4
def fX4_add (a1 : Int32) (I : Mem) : Option Mem :=
  Option.bind (ald I 63 41 (I 61 0)) fun x1 =>
  Option.bind (
      if (Int32.ofNat 500) ≤ x1 then
        some I
      else
        Option.bind (ast I 64 500 x1 a1) fun I2 =>
        Option.bind (ast I2 63 41 (I2 61 0) (x1 + (1 : Int32))) fun I3 =>
        some I3) fun I4 =>
  some I4
def fX4_kindOf (a1 : Int32) (I : Mem) : Option Int32 :=
  Option.bind (
      if a1 < 0 then
        some (4 : Int32)
      else
        if (I 61 0) ≤ a1 then
          some (4 : Int32)
        else
          Option.bind (ald I 62 40 a1) fun x1 =>
          some x1) fun x2 =>
  some x2
def fX4_arguments (a1 : Int32) (I : Mem) : Option Int32 :=
  Option.bind (
      if a1 < 0 then
        some (0 : Int32)
      else
        if (I 61 0) ≤ a1 then
          some (0 : Int32)
        else
          Option.bind (ald I 63 41 (a1 + (1 : Int32))) fun x1 =>
          Option.bind (ald I 63 41 a1) fun x2 =>
          some (x1 - x2)) fun x3 =>
  some x3
def fX4_argument (a1 : Int32) (a2 : Int32) (I : Mem) : Option Int32 :=
  Option.bind (
      if a2 < 0 then
        some (0 : Int32)
      else
        Option.bind (fX4_arguments a1 I) fun x1 =>
        if x1 ≤ a2 then
          some (0 : Int32)
        else
          Option.bind (ald I 63 41 a1) fun x2 =>
          Option.bind (ald I 64 500 (x2 + a2)) fun x3 =>
          some x3) fun x4 =>
  some x4
def fX5_copyFrom (b : Nat) (b1 : Nat) (I : Mem) : Option Mem :=
  Option.bind (fX0_copyFrom b b1 I) fun I1 =>
  Option.bind (fX3_copyFrom b b1 I1) fun I2 =>
  Option.bind (fX1_copyFrom b b1 I2) fun I3 =>
  some (wr (wr (wr (wr (wr (wr (wr (wr (wr I3 b 3 (I3 b1 3)) b 4 ((wr I3 b 3 (I3 b1 3)) b1 4)) b 5 ((wr (wr I3 b 3 (I3 b1 3)) b 4 ((wr I3 b 3 (I3 b1 3)) b1 4)) b1 5)) b 6 ((wr (wr (wr I3 b 3 (I3 b1 3)) b 4 ((wr I3 b 3 (I3 b1 3)) b1 4)) b 5 ((wr (wr I3 b 3 (I3 b1 3)) b 4 ((wr I3 b 3 (I3 b1 3)) b1 4)) b1 5)) b1 6)) b 7 ((wr (wr (wr (wr I3 b 3 (I3 b1 3)) b 4 ((wr I3 b 3 (I3 b1 3)) b1 4)) b 5 ((wr (wr I3 b 3 (I3 b1 3)) b 4 ((wr I3 b 3 (I3 b1 3)) b1 4)) b1 5)) b 6 ((wr (wr (wr I3 b 3 (I3 b1 3)) b 4 ((wr I3 b 3 (I3 b1 3)) b1 4)) b 5 ((wr (wr I3 b 3 (I3 b1 3)) b 4 ((wr I3 b 3 (I3 b1 3)) b1 4)) b1 5)) b1 6)) b1 7)) b 8 ((wr (wr (wr (wr (wr I3 b 3 (I3 b1 3)) b 4 ((wr I3 b 3 (I3 b1 3)) b1 4)) b 5 ((wr (wr I3 b 3 (I3 b1 3)) b 4 ((wr I3 b 3 (I3 b1 3)) b1 4)) b1 5)) b 6 ((wr (wr (wr I3 b 3 (I3 b1 3)) b 4 ((wr I3 b 3 (I3 b1 3)) b1 4)) b 5 ((wr (wr I3 b 3 (I3 b1 3)) b 4 ((wr I3 b 3 (I3 b1 3)) b1 4)) b1 5)) b1 6)) b 7 ((wr (wr (wr (wr I3 b 3 (I3 b1 3)) b 4 ((wr I3 b 3 (I3 b1 3)) b1 4)) b 5 ((wr (wr I3 b 3 (I3 b1 3)) b 4 ((wr I3 b 3 (I3 b1 3)) b1 4)) b1 5)) b 6 ((wr (wr (wr I3 b 3 (I3 b1 3)) b 4 ((wr I3 b 3 (I3 b1 3)) b1 4)) b 5 ((wr (wr I3 b 3 (I3 b1 3)) b 4 ((wr I3 b 3 (I3 b1 3)) b1 4)) b1 5)) b1 6)) b1 7)) b1 8)) b 9 ((wr (wr (wr (wr (wr (wr I3 b 3 (I3 b1 3)) b 4 ((wr I3 b 3 (I3 b1 3)) b1 4)) b 5 ((wr (wr I3 b 3 (I3 b1 3)) b 4 ((wr I3 b 3 (I3 b1 3)) b1 4)) b1 5)) b 6 ((wr (wr (wr I3 b 3 (I3 b1 3)) b 4 ((wr I3 b 3 (I3 b1 3)) b1 4)) b 5 ((wr (wr I3 b 3 (I3 b1 3)) b 4 ((wr I3 b 3 (I3 b1 3)) b1 4)) b1 5)) b1 6)) b 7 ((wr (wr (wr (wr I3 b 3 (I3 b1 3)) b 4 ((wr I3 b 3 (I3 b1 3)) b1 4)) b 5 ((wr (wr I3 b 3 (I3 b1 3)) b 4 ((wr I3 b 3 (I3 b1 3)) b1 4)) b1 5)) b 6 ((wr (wr (wr I3 b 3 (I3 b1 3)) b 4 ((wr I3 b 3 (I3 b1 3)) b1 4)) b 5 ((wr (wr I3 b 3 (I3 b1 3)) b 4 ((wr I3 b 3 (I3 b1 3)) b1 4)) b1 5)) b1 6)) b1 7)) b 8 ((wr (wr (wr (wr (wr I3 b 3 (I3 b1 3)) b 4 ((wr I3 b 3 (I3 b1 3)) b1 4)) b 5 ((wr (wr I3 b 3 (I3 b1 3)) b 4 ((wr I3 b 3 (I3 b1 3)) b1 4)) b1 5)) b 6 ((wr (wr (wr I3 b 3 (I3 b1 3)) b 4 ((wr I3 b 3 (I3 b1 3)) b1 4)) b 5 ((wr (wr I3 b 3 (I3 b1 3)) b 4 ((wr I3 b 3 (I3 b1 3)) b1 4)) b1 5)) b1 6)) b 7 ((wr (wr (wr (wr I3 b 3 (I3 b1 3)) b 4 ((wr I3 b 3 (I3 b1 3)) b1 4)) b 5 ((wr (wr I3 b 3 (I3 b1 3)) b 4 ((wr I3 b 3 (I3 b1 3)) b1 4)) b1 5)) b 6 ((wr (wr (wr I3 b 3 (I3 b1 3)) b 4 ((wr I3 b 3 (I3 b1 3)) b1 4)) b 5 ((wr (wr I3 b 3 (I3 b1 3)) b 4 ((wr I3 b 3 (I3 b1 3)) b1 4)) b1 5)) b1 6)) b1 7)) b1 8)) b1 9)) b 10 ((wr (wr (wr (wr (wr (wr (wr I3 b 3 (I3 b1 3)) b 4 ((wr I3 b 3 (I3 b1 3)) b1 4)) b 5 ((wr (wr I3 b 3 (I3 b1 3)) b 4 ((wr I3 b 3 (I3 b1 3)) b1 4)) b1 5)) b 6 ((wr (wr (wr I3 b 3 (I3 b1 3)) b 4 ((wr I3 b 3 (I3 b1 3)) b1 4)) b 5 ((wr (wr I3 b 3 (I3 b1 3)) b 4 ((wr I3 b 3 (I3 b1 3)) b1 4)) b1 5)) b1 6)) b 7 ((wr (wr (wr (wr I3 b 3 (I3 b1 3)) b 4 ((wr I3 b 3 (I3 b1 3)) b1 4)) b 5 ((wr (wr I3 b 3 (I3 b1 3)) b 4 ((wr I3 b 3 (I3 b1 3)) b1 4)) b1 5)) b 6 ((wr (wr (wr I3 b 3 (I3 b1 3)) b 4 ((wr I3 b 3 (I3 b1 3)) b1 4)) b 5 ((wr (wr I3 b 3 (I3 b1 3)) b 4 ((wr I3 b 3 (I3 b1 3)) b1 4)) b1 5)) b1 6)) b1 7)) b 8 ((wr (wr (wr (wr (wr I3 b 3 (I3 b1 3)) b 4 ((wr I3 b 3 (I3 b1 3)) b1 4)) b 5 ((wr (wr I3 b 3 (I3 b1 3)) b 4 ((wr I3 b 3 (I3 b1 3)) b1 4)) b1 5)) b 6 ((wr (wr (wr I3 b 3 (I3 b1 3)) b 4 ((wr I3 b 3 (I3 b1 3)) b1 4)) b 5 ((wr (wr I3 b 3 (I3 b1 3)) b 4 ((wr I3 b 3 (I3 b1 3)) b1 4)) b1 5)) b1 6)) b 7 ((wr (wr (wr (wr I3 b 3 (I3 b1 3)) b 4 ((wr I3 b 3 (I3 b1 3)) b1 4)) b 5 ((wr (wr I3 b 3 (I3 b1 3)) b 4 ((wr I3 b 3 (I3 b1 3)) b1 4)) b1 5)) b 6 ((wr (wr (wr I3 b 3 (I3 b1 3)) b 4 ((wr I3 b 3 (I3 b1 3)) b1 4)) b 5 ((wr (wr I3 b 3 (I3 b1 3)) b 4 ((wr I3 b 3 (I3 b1 3)) b1 4)) b1 5)) b1 6)) b1 7)) b1 8)) b 9 ((wr (wr (wr (wr (wr (wr I3 b 3 (I3 b1 3)) b 4 ((wr I3 b 3 (I3 b1 3)) b1 4)) b 5 ((wr (wr I3 b 3 (I3 b1 3)) b 4 ((wr I3 b 3 (I3 b1 3)) b1 4)) b1 5)) b 6 ((wr (wr (wr I3 b 3 (I3 b1 3)) b 4 ((wr I3 b 3 (I3 b1 3)) b1 4)) b 5 ((wr (wr I3 b 3 (I3 b1 3)) b 4 ((wr I3 b 3 (I3 b1 3)) b1 4)) b1 5)) b1 6)) b 7 ((wr (wr (wr (wr I3 b 3 (I3 b1 3)) b 4 ((wr I3 b 3 (I3 b1 3)) b1 4)) b 5 ((wr (wr I3 b 3 (I3 b1 3)) b 4 ((wr I3 b 3 (I3 b1 3)) b1 4)) b1 5)) b 6 ((wr (wr (wr I3 b 3 (I3 b1 3)) b 4 ((wr I3 b 3 (I3 b1 3)) b1 4)) b 5 ((wr (wr I3 b 3 (I3 b1 3)) b 4 ((wr I3 b 3 (I3 b1 3)) b1 4)) b1 5)) b1 6)) b1 7)) b 8 ((wr (wr (wr (wr (wr I3 b 3 (I3 b1 3)) b 4 ((wr I3 b 3 (I3 b1 3)) b1 4)) b 5 ((wr (wr I3 b 3 (I3 b1 3)) b 4 ((wr I3 b 3 (I3 b1 3)) b1 4)) b1 5)) b 6 ((wr (wr (wr I3 b 3 (I3 b1 3)) b 4 ((wr I3 b 3 (I3 b1 3)) b1 4)) b 5 ((wr (wr I3 b 3 (I3 b1 3)) b 4 ((wr I3 b 3 (I3 b1 3)) b1 4)) b1 5)) b1 6)) b 7 ((wr (wr (wr (wr I3 b 3 (I3 b1 3)) b 4 ((wr I3 b 3 (I3 b1 3)) b1 4)) b 5 ((wr (wr I3 b 3 (I3 b1 3)) b 4 ((wr I3 b 3 (I3 b1 3)) b1 4)) b1 5)) b 6 ((wr (wr (wr I3 b 3 (I3 b1 3)) b 4 ((wr I3 b 3 (I3 b1 3)) b1 4)) b 5 ((wr (wr I3 b 3 (I3 b1 3)) b 4 ((wr I3 b 3 (I3 b1 3)) b1 4)) b1 5)) b1 6)) b1 7)) b1 8)) b1 9)) b1 10)) b 11 ((wr (wr (wr (wr (wr (wr (wr (wr I3 b 3 (I3 b1 3)) b 4 ((wr I3 b 3 (I3 b1 3)) b1 4)) b 5 ((wr (wr I3 b 3 (I3 b1 3)) b 4 ((wr I3 b 3 (I3 b1 3)) b1 4)) b1 5)) b 6 ((wr (wr (wr I3 b 3 (I3 b1 3)) b 4 ((wr I3 b 3 (I3 b1 3)) b1 4)) b 5 ((wr (wr I3 b 3 (I3 b1 3)) b 4 ((wr I3 b 3 (I3 b1 3)) b1 4)) b1 5)) b1 6)) b 7 ((wr (wr (wr (wr I3 b 3 (I3 b1 3)) b 4 ((wr I3 b 3 (I3 b1 3)) b1 4)) b 5 ((wr (wr I3 b 3 (I3 b1 3)) b 4 ((wr I3 b 3 (I3 b1 3)) b1 4)) b1 5)) b 6 ((wr (wr (wr I3 b 3 (I3 b1 3)) b 4 ((wr I3 b 3 (I3 b1 3)) b1 4)) b 5 ((wr (wr I3 b 3 (I3 b1 3)) b 4 ((wr I3 b 3 (I3 b1 3)) b1 4)) b1 5)) b1 6)) b1 7)) b 8 ((wr (wr (wr (wr (wr I3 b 3 (I3 b1 3)) b 4 ((wr I3 b 3 (I3 b1 3)) b1 4)) b 5 ((wr (wr I3 b 3 (I3 b1 3)) b 4 ((wr I3 b 3 (I3 b1 3)) b1 4)) b1 5)) b 6 ((wr (wr (wr I3 b 3 (I3 b1 3)) b 4 ((wr I3 b 3 (I3 b1 3)) b1 4)) b 5 ((wr (wr I3 b 3 (I3 b1 3)) b 4 ((wr I3 b 3 (I3 b1 3)) b1 4)) b1 5)) b1 6)) b 7 ((wr (wr (wr (wr I3 b 3 (I3 b1 3)) b 4 ((wr I3 b 3 (I3 b1 3)) b1 4)) b 5 ((wr (wr I3 b 3 (I3 b1 3)) b 4 ((wr I3 b 3 (I3 b1 3)) b1 4)) b1 5)) b 6 ((wr (wr (wr I3 b 3 (I3 b1 3)) b 4 ((wr I3 b 3 (I3 b1 3)) b1 4)) b 5 ((wr (wr I3 b 3 (I3 b1 3)) b 4 ((wr I3 b 3 (I3 b1 3)) b1 4)) b1 5)) b1 6)) b1 7)) b1 8)) b 9 ((wr (wr (wr (wr (wr (wr I3 b 3 (I3 b1 3)) b 4 ((wr I3 b 3 (I3 b1 3)) b1 4)) b 5 ((wr (wr I3 b 3 (I3 b1 3)) b 4 ((wr I3 b 3 (I3 b1 3)) b1 4)) b1 5)) b 6 ((wr (wr (wr I3 b 3 (I3 b1 3)) b 4 ((wr I3 b 3 (I3 b1 3)) b1 4)) b 5 ((wr (wr I3 b 3 (I3 b1 3)) b 4 ((wr I3 b 3 (I3 b1 3)) b1 4)) b1 5)) b1 6)) b 7 ((wr (wr (wr (wr I3 b 3 (I3 b1 3)) b 4 ((wr I3 b 3 (I3 b1 3)) b1 4)) b 5 ((wr (wr I3 b 3 (I3 b1 3)) b 4 ((wr I3 b 3 (I3 b1 3)) b1 4)) b1 5)) b 6 ((wr (wr (wr I3 b 3 (I3 b1 3)) b 4 ((wr I3 b 3 (I3 b1 3)) b1 4)) b 5 ((wr (wr I3 b 3 (I3 b1 3)) b 4 ((wr I3 b 3 (I3 b1 3)) b1 4)) b1 5)) b1 6)) b1 7)) b 8 ((wr (wr (wr (wr (wr I3 b 3 (I3 b1 3)) b 4 ((wr I3 b 3 (I3 b1 3)) b1 4)) b 5 ((wr (wr I3 b 3 (I3 b1 3)) b 4 ((wr I3 b 3 (I3 b1 3)) b1 4)) b1 5)) b 6 ((wr (wr (wr I3 b 3 (I3 b1 3)) b 4 ((wr I3 b 3 (I3 b1 3)) b1 4)) b 5 ((wr (wr I3 b 3 (I3 b1 3)) b 4 ((wr I3 b 3 (I3 b1 3)) b1 4)) b1 5)) b1 6)) b 7 ((wr (wr (wr (wr I3 b 3 (I3 b1 3)) b 4 ((wr I3 b 3 (I3 b1 3)) b1 4)) b 5 ((wr (wr I3 b 3 (I3 b1 3)) b 4 ((wr I3 b 3 (I3 b1 3)) b1 4)) b1 5)) b 6 ((wr (wr (wr I3 b 3 (I3 b1 3)) b 4 ((wr I3 b 3 (I3 b1 3)) b1 4)) b 5 ((wr (wr I3 b 3 (I3 b1 3)) b 4 ((wr I3 b 3 (I3 b1 3)) b1 4)) b1 5)) b1 6)) b1 7)) b1 8)) b1 9)) b 10 ((wr (wr (wr (wr (wr (wr (wr I3 b 3 (I3 b1 3)) b 4 ((wr I3 b 3 (I3 b1 3)) b1 4)) b 5 ((wr (wr I3 b 3 (I3 b1 3)) b 4 ((wr I3 b 3 (I3 b1 3)) b1 4)) b1 5)) b 6 ((wr (wr (wr I3 b 3 (I3 b1 3)) b 4 ((wr I3 b 3 (I3 b1 3)) b1 4)) b 5 ((wr (wr I3 b 3 (I3 b1 3)) b 4 ((wr I3 b 3 (I3 b1 3)) b1 4)) b1 5)) b1 6)) b 7 ((wr (wr (wr (wr I3 b 3 (I3 b1 3)) b 4 ((wr I3 b 3 (I3 b1 3)) b1 4)) b 5 ((wr (wr I3 b 3 (I3 b1 3)) b 4 ((wr I3 b 3 (I3 b1 3)) b1 4)) b1 5)) b 6 ((wr (wr (wr I3 b 3 (I3 b1 3)) b 4 ((wr I3 b 3 (I3 b1 3)) b1 4)) b 5 ((wr (wr I3 b 3 (I3 b1 3)) b 4 ((wr I3 b 3 (I3 b1 3)) b1 4)) b1 5)) b1 6)) b1 7)) b 8 ((wr (wr (wr (wr (wr I3 b 3 (I3 b1 3)) b 4 ((wr I3 b 3 (I3 b1 3)) b1 4)) b 5 ((wr (wr I3 b 3 (I3 b1 3)) b 4 ((wr I3 b 3 (I3 b1 3)) b1 4)) b1 5)) b 6 ((wr (wr (wr I3 b 3 (I3 b1 3)) b 4 ((wr I3 b 3 (I3 b1 3)) b1 4)) b 5 ((wr (wr I3 b 3 (I3 b1 3)) b 4 ((wr I3 b 3 (I3 b1 3)) b1 4)) b1 5)) b1 6)) b 7 ((wr (wr (wr (wr I3 b 3 (I3 b1 3)) b 4 ((wr I3 b 3 (I3 b1 3)) b1 4)) b 5 ((wr (wr I3 b 3 (I3 b1 3)) b 4 ((wr I3 b 3 (I3 b1 3)) b1 4)) b1 5)) b 6 ((wr (wr (wr I3 b 3 (I3 b1 3)) b 4 ((wr I3 b 3 (I3 b1 3)) b1 4)) b 5 ((wr (wr I3 b 3 (I3 b1 3)) b 4 ((wr I3 b 3 (I3 b1 3)) b1 4)) b1 5)) b1 6)) b1 7)) b1 8)) b 9 ((wr (wr (wr (wr (wr (wr I3 b 3 (I3 b1 3)) b 4 ((wr I3 b 3 (I3 b1 3)) b1 4)) b 5 ((wr (wr I3 b 3 (I3 b1 3)) b 4 ((wr I3 b 3 (I3 b1 3)) b1 4)) b1 5)) b 6 ((wr (wr (wr I3 b 3 (I3 b1 3)) b 4 ((wr I3 b 3 (I3 b1 3)) b1 4)) b 5 ((wr (wr I3 b 3 (I3 b1 3)) b 4 ((wr I3 b 3 (I3 b1 3)) b1 4)) b1 5)) b1 6)) b 7 ((wr (wr (wr (wr I3 b 3 (I3 b1 3)) b 4 ((wr I3 b 3 (I3 b1 3)) b1 4)) b 5 ((wr (wr I3 b 3 (I3 b1 3)) b 4 ((wr I3 b 3 (I3 b1 3)) b1 4)) b1 5)) b 6 ((wr (wr (wr I3 b 3 (I3 b1 3)) b 4 ((wr I3 b 3 (I3 b1 3)) b1 4)) b 5 ((wr (wr I3 b 3 (I3 b1 3)) b 4 ((wr I3 b 3 (I3 b1 3)) b1 4)) b1 5)) b1 6)) b1 7)) b 8 ((wr (wr (wr (wr (wr I3 b 3 (I3 b1 3)) b 4 ((wr I3 b 3 (I3 b1 3)) b1 4)) b 5 ((wr (wr I3 b 3 (I3 b1 3)) b 4 ((wr I3 b 3 (I3 b1 3)) b1 4)) b1 5)) b 6 ((wr (wr (wr I3 b 3 (I3 b1 3)) b 4 ((wr I3 b 3 (I3 b1 3)) b1 4)) b 5 ((wr (wr I3 b 3 (I3 b1 3)) b 4 ((wr I3 b 3 (I3 b1 3)) b1 4)) b1 5)) b1 6)) b 7 ((wr (wr (wr (wr I3 b 3 (I3 b1 3)) b 4 ((wr I3 b 3 (I3 b1 3)) b1 4)) b 5 ((wr (wr I3 b 3 (I3 b1 3)) b 4 ((wr I3 b 3 (I3 b1 3)) b1 4)) b1 5)) b 6 ((wr (wr (wr I3 b 3 (I3 b1 3)) b 4 ((wr I3 b 3 (I3 b1 3)) b1 4)) b 5 ((wr (wr I3 b 3 (I3 b1 3)) b 4 ((wr I3 b 3 (I3 b1 3)) b1 4)) b1 5)) b1 6)) b1 7)) b1 8)) b1 9)) b1 10)) b1 11))
def fX5_clear (b : Nat) (I : Mem) : Option Mem :=
  Option.bind (fX0_forgetReports b (wr I (b + 1) 0 (0 : Int32))) fun I1 =>
  Option.bind (fX3_clear b I1) fun I2 =>
  some (wr (wr (wr (wr (wr (wr (wr (wr (wr I2 b 3 (0 : Int32)) b 4 (1 : Int32)) b 5 (1 : Int32)) b 6 (0 : Int32)) b 7 (0 : Int32)) b 8 (0 : Int32)) b 9 (0 : Int32)) b 10 (0 : Int32)) b 11 (0 : Int32))
def fX5_firstKept (b : Nat) (I : Mem) : Option Int32 :=
  some (imax (0 : Int32) ((I b 7) - (24 : Int32)))
def fJ9_floorMod_7cf53 (a0 : Int32) (a1 : Int32) : Option Int32 :=
  Option.bind (rmi a0 a1) fun x1 =>
  if 0 ≤ (a0 ^^^ a1) then
    some x1
  else
    if x1 = 0 then
      some x1
    else
      some (x1 + a1)
def fX5_rowOf (b : Nat) (a1 : Int32) : Option Int32 :=
  Option.bind (fJ9_floorMod_7cf53 a1 (24 : Int32)) fun x1 =>
  some x1
def fX6_middle_L16 (a2 : Int32) (a1 : Int32) : Nat → Int32 → Int32 → Mem → Option Int32
  | 0, _, _, _ => none
  | n9+1, a4, a3, I =>
    if (10 : Int32) ≤ a4 then
      some a3
    else
      Option.bind (ald I 54 10 a4) fun x1 =>
      Option.bind (ald I 54 10 a2) fun x2 =>
      Option.bind (
          if x2 < x1 then
            some (0 : Int32)
          else
            Option.bind (ald I 53 10 a4) fun x3 =>
            some x3) fun x4 =>
      fX6_middle_L16 a2 a1 n9 (a4 + (1 : Int32)) (a3 + x4) I
def fX6_middle_L5  : Nat → Int32 → Int32 → Mem → Option Int32
  | 0, _, _, _ => none
  | n9+1, a2, a1, I =>
    if (10 : Int32) ≤ a2 then
      some a1
    else
      Option.bind (fX6_middle_L16 a2 a1 zF (0 : Int32) (0 : Int32) I) fun x5 =>
      Option.bind (ald I 53 10 a2) fun x6 =>
      Option.bind (
          if x6 ≤ 0 then
            some a1
          else
            Option.bind (ald I 54 10 a2) fun x7 =>
            if a1 ≤ x7 then
              some a1
            else
              if ((2 : Int32) * x5) < (I 52 5) then
                some a1
              else
                Option.bind (ald I 54 10 a2) fun x8 =>
                some x8) fun x9 =>
      fX6_middle_L5 n9 (a2 + (1 : Int32)) x9 I
def fX6_middle (I : Mem) : Option Int32 :=
  Option.bind (fX6_middle_L5 zF (0 : Int32) (1000000 : Int32) I) fun x10 =>
  some x10
def fJ9_floorDiv_7cf53 (a0 : Int32) (a1 : Int32) : Option Int32 :=
  Option.bind (dvi a0 a1) fun x1 =>
  if 0 ≤ (a0 ^^^ a1) then
    some x1
  else
    if (x1 * a1) = a0 then
      some x1
    else
      some (x1 - (1 : Int32))
def fX6_weigh_L13 (a1 : Int32) (a2 : Int32) : Nat → Int32 → Int32 → Int32 → Mem → Option (Int32 × Int32 × Mem)
  | 0, _, _, _, _ => none
  | n9+1, a5, a4, a3, I =>
    if (10 : Int32) ≤ a5 then
      some (a4, a3, I)
    else
      Option.bind (ald I 53 10 a5) fun x1 =>
      ob3 (
          if x1 ≤ 0 then
            some (a4, a3, I)
          else
            Option.bind (ald I 54 10 a5) fun x2 =>
            if a2 < (iabs (x2 - a1)) then
              some (a4, a3, I)
            else
              Option.bind (ald (wr I 52 0 ((I 52 0) ||| ((1 : Int32) <<< (a5 &&& 31)))) 53 10 a5) fun x3 =>
              Option.bind (ald (wr I 52 0 ((I 52 0) ||| ((1 : Int32) <<< (a5 &&& 31)))) 53 10 a5) fun x4 =>
              Option.bind (ald (wr I 52 0 ((I 52 0) ||| ((1 : Int32) <<< (a5 &&& 31)))) 54 10 a5) fun x5 =>
              some ((a4 + (x4 * x5)), (a3 + x3), (wr I 52 0 ((I 52 0) ||| ((1 : Int32) <<< (a5 &&& 31)))))) fun x6 x7 I8 =>
      fX6_weigh_L13 a1 a2 n9 (a5 + (1 : Int32)) x6 x7 I8
def fX6_weigh (a1 : Int32) (a2 : Int32) (I : Mem) : Option Mem :=
  ob3 (fX6_weigh_L13 a1 a2 zF (0 : Int32) (0 : Int32) (0 : Int32) (wr I 52 0 (0 : Int32))) fun x9 x10 I11 =>
  plet (
      if x10 ≤ 0 then
        (0 : Int32)
      else
        if ((2 : Int32) * x10) ≤ (I11 52 5) then
          (0 : Int32)
        else
          (1 : Int32)) fun x12 =>
  Option.bind (zput I11 52 1 x12) fun I13 =>
  Option.bind (
      if (I13 52 1) = 0 then
        some (0 : Int32)
      else
        Option.bind (fJ9_floorDiv_7cf53 x9 x10) fun x14 =>
        some x14) fun x15 =>
  some (wr I13 52 2 x15)
def fX6_count_L8 (k2 : Nat) (k3 : Nat) (a1 : Int32) (a4 : Int32) (a5 : Int32) : Nat → Int32 → Mem → Option Mem
  | 0, _, _ => none
  | n9+1, a6, I =>
    if (10 : Int32) ≤ a6 then
      some I
    else
      Option.bind (fX7_has a1 a6) fun x1 =>
      plet (
          if x1 = 0 then
            (0 : Int32)
          else
            if (Int32.ofNat (zb_ln k2)) ≤ a6 then
              (0 : Int32)
            else
              if a4 < 0 then
                (0 : Int32)
              else
                if (Int32.ofNat (zb_ln k3)) ≤ (a4 + a6) then
                  (0 : Int32)
                else
                  (1 : Int32)) fun x2 =>
      Option.bind (
          if x2 = 0 then
            some (0 : Int32)
          else
            Option.bind (ald I k2 (zb_ln k2) a6) fun x3 =>
            some x3) fun x4 =>
      Option.bind (ast I 53 10 a6 x4) fun I5 =>
      Option.bind (
          if x2 = 0 then
            some (0 : Int32)
          else
            Option.bind (ald I5 k3 (zb_ln k3) (a4 + a6)) fun x6 =>
            some x6) fun x7 =>
      Option.bind (ast I5 54 10 a6 x7) fun I8 =>
      Option.bind (ald I8 53 10 a6) fun x9 =>
      fX6_count_L8 k2 k3 a1 a4 a5 n9 (a6 + (1 : Int32)) (wr I8 52 5 ((I8 52 5) + x9))
def fX6_count (k2 : Nat) (k3 : Nat) (a1 : Int32) (a4 : Int32) (a5 : Int32) (I : Mem) : Option Mem :=
  Option.bind (fX6_count_L8 k2 k3 a1 a4 a5 zF (0 : Int32) (wr I 52 5 (0 : Int32))) fun I10 =>
  Option.bind (fX6_middle I10) fun x11 =>
  Option.bind (fX6_weigh x11 a5 I10) fun I12 =>
  some I12
def fX5_countRow (b : Nat) (a1 : Int32) (a2 : Int32) (I : Mem) : Option Mem :=
  Option.bind (fX6_count (b + 3) (b + 23) a2 (a1 * (10 : Int32)) (I b 3) I) fun I1 =>
  some I1
def fX5_tellLevel (b : Nat) (a1 : Int32) (I : Mem) : Option Mem :=
  Option.bind (ald I (b + 15) 24 a1) fun x1 =>
  Option.bind (fX6_count (b + 3) (b + 23) x1 (a1 * (10 : Int32)) (I b 3) I) fun I2 =>
  Option.bind (ast I2 (b + 16) 24 a1 (I2 52 0)) fun I3 =>
  plet (
      if (I3 52 1) = 0 then
        (0 : Int32)
      else
        (1 : Int32)) fun x4 =>
  Option.bind (ast I3 (b + 17) 24 a1 x4) fun I5 =>
  Option.bind (ast I5 (b + 18) 24 a1 (I5 52 2)) fun I6 =>
  some I6
def fX5_openRow (b : Nat) (I : Mem) : Option (Int32 × Mem) :=
  Option.bind (fX5_rowOf b (I b 7)) fun x1 =>
  Option.bind (fX0_tellValues b (b + 23) (x1 * (10 : Int32)) I) fun I2 =>
  Option.bind (ast I2 (b + 19) 24 x1 (I2 (b + 1) 1)) fun I3 =>
  Option.bind (fX0_membersIn b (1 : Int32) I3) fun x4 =>
  Option.bind (ast I3 (b + 20) 24 x1 x4) fun I5 =>
  Option.bind (fX0_membersIn b (2 : Int32) I5) fun x6 =>
  Option.bind (ast I5 (b + 21) 24 x1 x6) fun I7 =>
  Option.bind (fX0_membersIn b (0 : Int32) I7) fun x8 =>
  Option.bind (ast I7 (b + 15) 24 x1 ((I7 (b + 1) 1) &&& x8)) fun I9 =>
  Option.bind (ast I9 (b + 22) 24 x1 (0 : Int32)) fun I10 =>
  some (x1, I10)
def fX5_countStrikes_L2 (b : Nat) (a1 : Int32) : Nat → Int32 → Mem → Option Mem
  | 0, _, _ => none
  | n9+1, a2, I =>
    if (I (b + 1) 0) ≤ a2 then
      some I
    else
      Option.bind (ald I (b + 16) 24 a1) fun x1 =>
      Option.bind (fX7_has x1 a2) fun x2 =>
      Option.bind (
          if x2 = 0 then
            Option.bind (ald I (b + 15) 24 a1) fun x3 =>
            Option.bind (fX7_has x3 a2) fun x4 =>
            if x4 = 0 then
              some I
            else
              Option.bind (ald I (b + 7) 10 a2) fun x5 =>
              Option.bind (
                  if x5 = 0 then
                    Option.bind (ast I (b + 9) 10 a2 (I b 7)) fun I6 =>
                    some I6
                  else
                    some I) fun I7 =>
              Option.bind (ald I7 (b + 7) 10 a2) fun x8 =>
              Option.bind (ast I7 (b + 7) 10 a2 (x8 + (1 : Int32))) fun I9 =>
              some I9
          else
            Option.bind (ast I (b + 7) 10 a2 (0 : Int32)) fun I10 =>
            Option.bind (ast I10 (b + 9) 10 a2 (-1 : Int32)) fun I11 =>
            some I11) fun I12 =>
      fX5_countStrikes_L2 b a1 n9 (a2 + (1 : Int32)) I12
def fX5_countStrikes (b : Nat) (a1 : Int32) (I : Mem) : Option Mem :=
  Option.bind (fX5_countStrikes_L2 b a1 zF (0 : Int32) I) fun I13 =>
  some I13
def fX5_countAgreed_L22 (b : Nat) (a2 : Int32) (a1 : Int32) : Nat → Int32 → Mem → Option Mem
  | 0, _, _ => none
  | n9+1, a3, I =>
    if (I (b + 1) 0) ≤ a3 then
      some I
    else
      Option.bind (fX7_has a2 a3) fun x3 =>
      Option.bind (
          if x3 = 0 then
            some I
          else
            Option.bind (ald I (b + 23) 240 ((a1 * (10 : Int32)) + a3)) fun x4 =>
            Option.bind (ald I (b + 18) 24 a1) fun x5 =>
            Option.bind (
                if (I b 3) < (iabs (x4 - x5)) then
                  some (0 : Int32)
                else
                  Option.bind (ald I (b + 8) 10 a3) fun x6 =>
                  some (x6 + (1 : Int32))) fun x7 =>
            Option.bind (ast I (b + 8) 10 a3 x7) fun I8 =>
            some I8) fun I9 =>
      fX5_countAgreed_L22 b a2 a1 n9 (a3 + (1 : Int32)) I9
def fX5_countAgreed (b : Nat) (a1 : Int32) (I : Mem) : Option Mem :=
  Option.bind (ald I (b + 20) 24 a1) fun x1 =>
  Option.bind (ald I (b + 19) 24 a1) fun x2 =>
  Option.bind (fX5_countAgreed_L22 b (x1 &&& x2) a1 zF (0 : Int32) I) fun I10 =>
  some I10
def fX5_trustAgain_L2 (b : Nat) : Nat → Int32 → Mem → Option Mem
  | 0, _, _ => none
  | n9+1, a1, I =>
    if (I (b + 1) 0) ≤ a1 then
      some I
    else
      Option.bind (ald I (b + 6) 10 a1) fun x1 =>
      Option.bind (
          if x1 = (1 : Int32) then
            Option.bind (ald I (b + 8) 10 a1) fun x2 =>
            if x2 < (I b 5) then
              some I
            else
              Option.bind (ast I (b + 6) 10 a1 (0 : Int32)) fun I3 =>
              Option.bind (ast I3 (b + 8) 10 a1 (0 : Int32)) fun I4 =>
              some I4
          else
            some I) fun I5 =>
      fX5_trustAgain_L2 b n9 (a1 + (1 : Int32)) I5
def fX5_trustAgain (b : Nat) (I : Mem) : Option Mem :=
  Option.bind (fX5_trustAgain_L2 b zF (0 : Int32) I) fun I6 =>
  some I6
def fX5_dragVoters_L4 (b : Nat) (a1 : Int32) : Nat → Int32 → Int32 → Mem → Option (Int32 × Mem)
  | 0, _, _, _ => none
  | n9+1, a3, a2, I =>
    if (I (b + 1) 0) ≤ a3 then
      some (a2, I)
    else
      Option.bind (ald I (b + 15) 24 a1) fun x1 =>
      Option.bind (fX7_has x1 a3) fun x2 =>
      ob2 (
          if x2 = 0 then
            some (a2, I)
          else
            Option.bind (ald I (b + 7) 10 a3) fun x3 =>
            if x3 < (I b 4) then
              some (a2, I)
            else
              Option.bind (ast I (b + 6) 10 a3 (2 : Int32)) fun I4 =>
              some ((a2 ||| ((1 : Int32) <<< (a3 &&& 31))), I4)) fun x5 I6 =>
      fX5_dragVoters_L4 b a1 n9 (a3 + (1 : Int32)) x5 I6
def fX5_dragVoters (b : Nat) (a1 : Int32) (I : Mem) : Option (Int32 × Mem) :=
  ob2 (fX5_dragVoters_L4 b a1 zF (0 : Int32) (0 : Int32) I) fun x7 I8 =>
  some (x7, I8)
def fX5_draggedSince_L5 (b : Nat) (a1 : Int32) (a2 : Int32) : Nat → Int32 → Int32 → Mem → Option Int32
  | 0, _, _, _ => none
  | n9+1, a4, a3, I =>
    if (I (b + 1) 0) ≤ a4 then
      some a3
    else
      Option.bind (fX7_has a1 a4) fun x1 =>
      Option.bind (
          if x1 = 0 then
            some a3
          else
            Option.bind (ald I (b + 9) 10 a4) fun x2 =>
            if a2 < x2 then
              some a3
            else
              some (a3 ||| ((1 : Int32) <<< (a4 &&& 31)))) fun x3 =>
      fX5_draggedSince_L5 b a1 a2 n9 (a4 + (1 : Int32)) x3 I
def fX5_draggedSince (b : Nat) (a1 : Int32) (a2 : Int32) (I : Mem) : Option Int32 :=
  Option.bind (fX5_draggedSince_L5 b a1 a2 zF (0 : Int32) (0 : Int32) I) fun x4 =>
  some x4
def fX5_takeOut_L5 (b : Nat) (a1 : Int32) : Nat → Int32 → Mem → Option Mem
  | 0, _, _ => none
  | n9+1, a3, I =>
    if (I b 7) ≤ a3 then
      some I
    else
      Option.bind (fX5_rowOf b a3) fun x2 =>
      Option.bind (ald I (b + 15) 24 x2) fun x3 =>
      Option.bind (fX5_draggedSince b a1 a3 I) fun x4 =>
      Option.bind (
          if (x3 &&& x4) = 0 then
            some I
          else
            Option.bind (ald I (b + 15) 24 x2) fun x5 =>
            Option.bind (ast I (b + 15) 24 x2 (x5 &&& ((x3 &&& x4) ^^^ (-1 : Int32)))) fun I6 =>
            Option.bind (ald I6 (b + 22) 24 x2) fun x7 =>
            Option.bind (ast I6 (b + 22) 24 x2 (x7 ||| (x3 &&& x4))) fun I8 =>
            Option.bind (fX5_tellLevel b x2 I8) fun I9 =>
            some (wr I9 b 9 ((I9 b 9) + (1 : Int32)))) fun I10 =>
      fX5_takeOut_L5 b a1 n9 (a3 + (1 : Int32)) I10
def fX5_takeOut (b : Nat) (a1 : Int32) (I : Mem) : Option Mem :=
  Option.bind (fX5_firstKept b I) fun x1 =>
  Option.bind (fX5_takeOut_L5 b a1 zF x1 I) fun I11 =>
  some I11
def fX5_endsSegment (b : Nat) (a1 : Int32) (a2 : Int32) (I : Mem) : Option Int32 :=
  Option.bind (
      if a1 = ((I (b + 1) 0) - (1 : Int32)) then
        some (1 : Int32)
      else
        Option.bind (fX7_has a2 a1) fun x1 =>
        if x1 = 0 then
          some (0 : Int32)
        else
          some (1 : Int32)) fun x2 =>
  Option.bind (zbo x2) fun v9 =>
  some v9
def fX5_breaking_L6 (b : Nat) (a1 : Int32) (a2 : Int32) (a3 : Int32) : Nat → Int32 → Int32 → Mem → Option Int32
  | 0, _, _, _ => none
  | n9+1, a5, a4, I =>
    if ((I (b + 1) 0) - (1 : Int32)) ≤ a5 then
      some a4
    else
      Option.bind (
          if a5 < a2 then
            some (0 : Int32)
          else
            if a3 ≤ a5 then
              some (0 : Int32)
            else
              Option.bind (fX7_has (I (b + 11) 0) a5) fun x1 =>
              if x1 = 0 then
                some (1 : Int32)
              else
                some (0 : Int32)) fun x2 =>
      Option.bind (
          if x2 = 0 then
            some a4
          else
            Option.bind (ald I (b + 13) 10 a5) fun x3 =>
            Option.bind (ald I (b + 12) 10 a5) fun x4 =>
            if (x3 + a1) ≤ x4 then
              some a4
            else
              some (a4 ||| ((1 : Int32) <<< (a5 &&& 31)))) fun x5 =>
      fX5_breaking_L6 b a1 a2 a3 n9 (a5 + (1 : Int32)) x5 I
def fX5_breaking (b : Nat) (a1 : Int32) (a2 : Int32) (a3 : Int32) (I : Mem) : Option Int32 :=
  Option.bind (fX5_breaking_L6 b a1 a2 a3 zF (0 : Int32) (0 : Int32) I) fun x6 =>
  some x6
def fX5_drifting_L32 (b : Nat) (a4 : Int32) (a1 : Int32) (a2 : Int32) (a3 : Int32) : Nat → Int32 → Int32 → Int32 → Int32 → Int32 → Mem → Option Int32
  | 0, _, _, _, _, _, _ => none
  | n9+1, a9, a8, a7, a6, a5, I =>
    if (I (b + 1) 0) ≤ a9 then
      some a5
    else
      Option.bind (ald I (b + 4) 10 a9) fun x2 =>
      plet (
          if a9 < a2 then
            (0 : Int32)
          else
            if a3 < a9 then
              (0 : Int32)
            else
              (1 : Int32)) fun x3 =>
      Option.bind (fX5_endsSegment b a9 a4 I) fun x4 =>
      pl4 (
          if x4 = 0 then
            ((a8 + x3), (a7 + x2), (a6 ||| ((1 : Int32) <<< (a9 &&& 31))), a5)
          else
            plet (
                if (a1 * (a8 + x3)) ≤ (a7 + x2) then
                  a5
                else
                  (a5 ||| (a6 ||| ((1 : Int32) <<< (a9 &&& 31))))) fun x5 =>
            ((0 : Int32), (0 : Int32), (0 : Int32), x5)) fun x6 x7 x8 x9 =>
      fX5_drifting_L32 b a4 a1 a2 a3 n9 (a9 + (1 : Int32)) x6 x7 x8 x9 I
def fX5_drifting (b : Nat) (a1 : Int32) (a2 : Int32) (a3 : Int32) (I : Mem) : Option Int32 :=
  Option.bind (fX5_breaking b a1 a2 a3 I) fun x1 =>
  Option.bind (fX5_drifting_L32 b ((I (b + 11) 0) ||| x1) a1 a2 a3 zF (0 : Int32) (0 : Int32) (0 : Int32) (0 : Int32) (0 : Int32) I) fun x10 =>
  some x10
def fX5_blow_L21 (b : Nat) (a5 : Int32) (a4 : Int32) (a1 : Int32) (a2 : Int32) (a3 : Int32) : Nat → Int32 → Mem → Option Mem
  | 0, _, _ => none
  | n9+1, a6, I =>
    if ((I (b + 1) 0) - (1 : Int32)) ≤ a6 then
      some I
    else
      Option.bind (
          if a6 < a2 then
            some I
          else
            if a3 ≤ a6 then
              some I
            else
              Option.bind (fX7_has (I (b + 11) 0) a6) fun x3 =>
              if x3 = 0 then
                Option.bind (ald I (b + 13) 10 a6) fun x4 =>
                Option.bind (ast I (b + 13) 10 a6 (x4 + a1)) fun I5 =>
                some I5
              else
                some I) fun I6 =>
      fX5_blow_L21 b a5 a4 a1 a2 a3 n9 (a6 + (1 : Int32)) I6
def fX5_blow_L99 (b : Nat) (a4 : Int32) : Nat → Int32 → Mem → Option Mem
  | 0, _, _ => none
  | n9+1, a6, I =>
    if (I (b + 1) 0) ≤ a6 then
      some I
    else
      Option.bind (fX7_has a4 a6) fun x8 =>
      Option.bind (
          if x8 = 0 then
            some I
          else
            Option.bind (ald I (b + 6) 10 a6) fun x9 =>
            if x9 = (2 : Int32) then
              some I
            else
              Option.bind (fX0_putUnderSuspicion b a6 I) fun I10 =>
              some I10) fun I11 =>
      fX5_blow_L99 b a4 n9 (a6 + (1 : Int32)) I11
def fX5_blow (b : Nat) (a1 : Int32) (a2 : Int32) (a3 : Int32) (I : Mem) : Option (Int32 × Mem) :=
  Option.bind (fX5_drifting b a1 a2 a3 I) fun x1 =>
  Option.bind (fX5_breaking b a1 a2 a3 I) fun x2 =>
  Option.bind (fX5_blow_L21 b x2 x1 a1 a2 a3 zF (0 : Int32) I) fun I7 =>
  Option.bind (fX5_blow_L99 b x1 zF (0 : Int32) (wr I7 (b + 11) 0 ((I7 (b + 11) 0) ||| x2))) fun I12 =>
  some (x1, (wr I12 b 8 ((I12 b 8) + (1 : Int32))))
def fX5_lacking_L8 (b : Nat) (a1 : Int32) (a2 : Int32) : Nat → Int32 → Int32 → Int32 → Mem → Option Int32
  | 0, _, _, _, _ => none
  | n9+1, a5, a4, a3, I =>
    if (I (b + 1) 0) ≤ a5 then
      some a3
    else
      Option.bind (ald I (b + 4) 10 a5) fun x1 =>
      Option.bind (fX5_endsSegment b a5 a2 I) fun x2 =>
      pl2 (
          if x2 = 0 then
            ((a4 + (a1 - x1)), a3)
          else
            ((0 : Int32), (a3 + (imax (0 : Int32) (a4 + (a1 - x1)))))) fun x3 x4 =>
      fX5_lacking_L8 b a1 a2 n9 (a5 + (1 : Int32)) x3 x4 I
def fX5_lacking (b : Nat) (a1 : Int32) (a2 : Int32) (I : Mem) : Option Int32 :=
  Option.bind (fX5_lacking_L8 b a1 a2 zF (0 : Int32) (0 : Int32) (0 : Int32) I) fun x5 =>
  some x5
def fX5_lengthOf_L4 (b : Nat) (a1 : Int32) : Nat → Int32 → Int32 → Mem → Option Int32
  | 0, _, _, _ => none
  | n9+1, a3, a2, I =>
    if ((I (b + 1) 0) - (1 : Int32)) ≤ a3 then
      some a2
    else
      Option.bind (fX7_has a1 a3) fun x1 =>
      Option.bind (
          if x1 = 0 then
            some a2
          else
            Option.bind (fX0_distanceBehind b a3 I) fun x2 =>
            some (a2 + x2)) fun x3 =>
      fX5_lengthOf_L4 b a1 n9 (a3 + (1 : Int32)) x3 I
def fX5_lengthOf (b : Nat) (a1 : Int32) (I : Mem) : Option Int32 :=
  Option.bind (fX5_lengthOf_L4 b a1 zF (0 : Int32) (0 : Int32) I) fun x4 =>
  some x4
def fJ6_bitCount_0f7a4 (a0 : Int32) : Option Int32 :=
  some ((((((((a0 - ((a0.toUInt32 >>> ((1 : Int32).toUInt32 &&& Int32.toUInt32 31)).toInt32 &&& (1431655765 : Int32))) &&& (858993459 : Int32)) + (((a0 - ((a0.toUInt32 >>> ((1 : Int32).toUInt32 &&& Int32.toUInt32 31)).toInt32 &&& (1431655765 : Int32))).toUInt32 >>> ((2 : Int32).toUInt32 &&& Int32.toUInt32 31)).toInt32 &&& (858993459 : Int32))) + ((((a0 - ((a0.toUInt32 >>> ((1 : Int32).toUInt32 &&& Int32.toUInt32 31)).toInt32 &&& (1431655765 : Int32))) &&& (858993459 : Int32)) + (((a0 - ((a0.toUInt32 >>> ((1 : Int32).toUInt32 &&& Int32.toUInt32 31)).toInt32 &&& (1431655765 : Int32))).toUInt32 >>> ((2 : Int32).toUInt32 &&& Int32.toUInt32 31)).toInt32 &&& (858993459 : Int32))).toUInt32 >>> ((4 : Int32).toUInt32 &&& Int32.toUInt32 31)).toInt32) &&& (252645135 : Int32)) + ((((((a0 - ((a0.toUInt32 >>> ((1 : Int32).toUInt32 &&& Int32.toUInt32 31)).toInt32 &&& (1431655765 : Int32))) &&& (858993459 : Int32)) + (((a0 - ((a0.toUInt32 >>> ((1 : Int32).toUInt32 &&& Int32.toUInt32 31)).toInt32 &&& (1431655765 : Int32))).toUInt32 >>> ((2 : Int32).toUInt32 &&& Int32.toUInt32 31)).toInt32 &&& (858993459 : Int32))) + ((((a0 - ((a0.toUInt32 >>> ((1 : Int32).toUInt32 &&& Int32.toUInt32 31)).toInt32 &&& (1431655765 : Int32))) &&& (858993459 : Int32)) + (((a0 - ((a0.toUInt32 >>> ((1 : Int32).toUInt32 &&& Int32.toUInt32 31)).toInt32 &&& (1431655765 : Int32))).toUInt32 >>> ((2 : Int32).toUInt32 &&& Int32.toUInt32 31)).toInt32 &&& (858993459 : Int32))).toUInt32 >>> ((4 : Int32).toUInt32 &&& Int32.toUInt32 31)).toInt32) &&& (252645135 : Int32)).toUInt32 >>> ((8 : Int32).toUInt32 &&& Int32.toUInt32 31)).toInt32) + (((((((a0 - ((a0.toUInt32 >>> ((1 : Int32).toUInt32 &&& Int32.toUInt32 31)).toInt32 &&& (1431655765 : Int32))) &&& (858993459 : Int32)) + (((a0 - ((a0.toUInt32 >>> ((1 : Int32).toUInt32 &&& Int32.toUInt32 31)).toInt32 &&& (1431655765 : Int32))).toUInt32 >>> ((2 : Int32).toUInt32 &&& Int32.toUInt32 31)).toInt32 &&& (858993459 : Int32))) + ((((a0 - ((a0.toUInt32 >>> ((1 : Int32).toUInt32 &&& Int32.toUInt32 31)).toInt32 &&& (1431655765 : Int32))) &&& (858993459 : Int32)) + (((a0 - ((a0.toUInt32 >>> ((1 : Int32).toUInt32 &&& Int32.toUInt32 31)).toInt32 &&& (1431655765 : Int32))).toUInt32 >>> ((2 : Int32).toUInt32 &&& Int32.toUInt32 31)).toInt32 &&& (858993459 : Int32))).toUInt32 >>> ((4 : Int32).toUInt32 &&& Int32.toUInt32 31)).toInt32) &&& (252645135 : Int32)) + ((((((a0 - ((a0.toUInt32 >>> ((1 : Int32).toUInt32 &&& Int32.toUInt32 31)).toInt32 &&& (1431655765 : Int32))) &&& (858993459 : Int32)) + (((a0 - ((a0.toUInt32 >>> ((1 : Int32).toUInt32 &&& Int32.toUInt32 31)).toInt32 &&& (1431655765 : Int32))).toUInt32 >>> ((2 : Int32).toUInt32 &&& Int32.toUInt32 31)).toInt32 &&& (858993459 : Int32))) + ((((a0 - ((a0.toUInt32 >>> ((1 : Int32).toUInt32 &&& Int32.toUInt32 31)).toInt32 &&& (1431655765 : Int32))) &&& (858993459 : Int32)) + (((a0 - ((a0.toUInt32 >>> ((1 : Int32).toUInt32 &&& Int32.toUInt32 31)).toInt32 &&& (1431655765 : Int32))).toUInt32 >>> ((2 : Int32).toUInt32 &&& Int32.toUInt32 31)).toInt32 &&& (858993459 : Int32))).toUInt32 >>> ((4 : Int32).toUInt32 &&& Int32.toUInt32 31)).toInt32) &&& (252645135 : Int32)).toUInt32 >>> ((8 : Int32).toUInt32 &&& Int32.toUInt32 31)).toInt32).toUInt32 >>> ((16 : Int32).toUInt32 &&& Int32.toUInt32 31)).toInt32) &&& (63 : Int32))
def fX5_planFor_L24 (b : Nat) (a4 : Int32) (a1 : Int32) : Nat → Int32 → Int32 → Int32 → Mem → Option Int32
  | 0, _, _, _, _ => none
  | n9+1, a5, a3, a2, I =>
    if a4 ≤ a5 then
      some a2
    else
      ob2 (
          if (a5 &&& ((I (b + 11) 0) ^^^ (-1 : Int32))) = 0 then
            Option.bind (fX5_lengthOf b a5 I) fun x1 =>
            Option.bind (
                if a2 = (-1 : Int32) then
                  some (1 : Int32)
                else
                  if x1 < a3 then
                    some (1 : Int32)
                  else
                    if x1 = a3 then
                      Option.bind (fJ6_bitCount_0f7a4 a5) fun x2 =>
                      Option.bind (fJ6_bitCount_0f7a4 a2) fun x3 =>
                      if x3 ≤ x2 then
                        some (0 : Int32)
                      else
                        some (1 : Int32)
                    else
                      some (0 : Int32)) fun x4 =>
            if x4 = 0 then
              some (a3, a2)
            else
              if (I b 6) < x1 then
                some (a3, a2)
              else
                Option.bind (fX5_lacking b a1 ((I (b + 11) 0) &&& (a5 ^^^ (-1 : Int32))) I) fun x5 =>
                if x5 = 0 then
                  some (x1, a5)
                else
                  some (a3, a2)
          else
            some (a3, a2)) fun x6 x7 =>
      fX5_planFor_L24 b a4 a1 n9 (a5 + (1 : Int32)) x6 x7 I
def fX5_planFor (b : Nat) (a1 : Int32) (I : Mem) : Option Int32 :=
  Option.bind (fX5_planFor_L24 b ((1 : Int32) <<< ((imax (0 : Int32) ((I (b + 1) 0) - (1 : Int32))) &&& 31)) a1 zF (0 : Int32) (0 : Int32) (-1 : Int32) I) fun x8 =>
  some x8
def fX5_renew_L8 (b : Nat) (a2 : Int32) (a1 : Int32) : Nat → Int32 → Mem → Option Mem
  | 0, _, _ => none
  | n9+1, a3, I =>
    if ((I (b + 1) 0) - (1 : Int32)) ≤ a3 then
      some I
    else
      Option.bind (fX7_has a1 a3) fun x2 =>
      Option.bind (
          if x2 = 0 then
            some I
          else
            Option.bind (ast I (b + 13) 10 a3 (0 : Int32)) fun I3 =>
            some I3) fun I4 =>
      fX5_renew_L8 b a2 a1 n9 (a3 + (1 : Int32)) I4
def fX5_renew (b : Nat) (a1 : Int32) (I : Mem) : Option Mem :=
  Option.bind (fX5_lengthOf b a1 I) fun x1 =>
  Option.bind (fX5_renew_L8 b x1 a1 zF (0 : Int32) I) fun I5 =>
  some (wr (wr (wr I5 (b + 11) 0 ((I5 (b + 11) 0) &&& (a1 ^^^ (-1 : Int32)))) b 6 (((wr I5 (b + 11) 0 ((I5 (b + 11) 0) &&& (a1 ^^^ (-1 : Int32)))) b 6) - x1)) b 11 (((wr (wr I5 (b + 11) 0 ((I5 (b + 11) 0) &&& (a1 ^^^ (-1 : Int32)))) b 6 (((wr I5 (b + 11) 0 ((I5 (b + 11) 0) &&& (a1 ^^^ (-1 : Int32)))) b 6) - x1)) b 11) + x1))
def fX7_bytesIn_L5 (a0 : Int32) : Nat → Int32 → Int32 → Option Int32
  | 0, _, _ => none
  | n9+1, a2, a1 =>
    if a2 < 0 then
      some a1
    else
      plet (
          if ((a0 >>> (a2 &&& 31)) &&& (255 : Int32)) = 0 then
            a1
          else
            (a1 + (1 : Int32))) fun x1 =>
      fX7_bytesIn_L5 a0 n9 (a2 + (-8 : Int32)) x1
def fX7_bytesIn (a0 : Int32) : Option Int32 :=
  Option.bind (fX7_bytesIn_L5 a0 zF (24 : Int32) (0 : Int32)) fun x2 =>
  some x2
def fX7_append (a1 : Int32) (a2 : Int32) (a3 : Int32) (a4 : Int32) (a5 : Int32) (I : Mem) : Option (Nat × Int32 × Mem) :=
  Option.bind (fX7_bytesIn a1) fun x1 =>
  Option.bind (fX7_bytesIn a2) fun x2 =>
  Option.bind (fX7_bytesIn a3) fun x3 =>
  Option.bind (fX7_bytesIn a4) fun x4 =>
  Option.bind (fX7_bytesIn a5) fun x5 =>
  if ((I 56 1) + ((((x1 + x2) + x3) + x4) + x5)) ≤ (500 : Int32) then
    Option.bind (fX2_addBytes a1 I) fun I6 =>
    Option.bind (fX2_addBytes a2 I6) fun I7 =>
    Option.bind (fX2_addBytes a3 I7) fun I8 =>
    Option.bind (fX2_addBytes a4 I8) fun I9 =>
    Option.bind (fX2_addBytes a5 I9) fun I10 =>
    some (0, (I10 56 1), I10)
  else
    some (3, 0, I)
def fX7_readBuoy (I : Mem) : Option Mem :=
  Option.bind (
      if (I 26 0) < (10 : Int32) then
        some I
      else
        Option.bind (fX2_fail (4 : Int32) I) fun I1 =>
        some I1) fun I2 =>
  Option.bind (fX2_takeKind (8 : Int32) I2) fun I3 =>
  ob2 (fX2_lookNumber (0 : Int32) (9999 : Int32) I3) fun x4 I5 =>
  Option.bind (fX0_lastHome 25 I5) fun x6 =>
  Option.bind (
      if x6 < x4 then
        some I5
      else
        Option.bind (fX2_fail (3 : Int32) I5) fun I7 =>
        some I7) fun I8 =>
  Option.bind (fX2_takeKind (1 : Int32) I8) fun I9 =>
  ob2 (fX2_takeNumber (1 : Int32) (9 : Int32) I9) fun x10 I11 =>
  ob2 (fX2_takeNumber (0 : Int32) (99 : Int32) I11) fun x12 I13 =>
  Option.bind (fX2_isAtSigned I13) fun x14 =>
  ob2 (
      if x14 = 0 then
        some ((0 : Int32), I13)
      else
        ob2 (fX2_takeSigned (99 : Int32) I13) fun x15 I16 =>
        some (x15, I16)) fun x17 I18 =>
  Option.bind (fX0_add 25 x4 x10 x12 x17 I18) fun I19 =>
  some I19
def fX7_readRope (I : Mem) : Option Mem :=
  Option.bind (fX2_takeKind (9 : Int32) I) fun I1 =>
  ob2 (fX2_takeNumber (0 : Int32) ((I1 26 0) - (2 : Int32)) I1) fun x2 I3 =>
  ob2 (fX2_takeNumber (1 : Int32) (99 : Int32) I3) fun x4 I5 =>
  Option.bind (fX3_strengthen 25 x2 x4 I5) fun I6 =>
  some I6
def fX7_readSetup_L85  : Nat → Int32 → Mem → Option Mem
  | 0, _, _ => none
  | n9+1, a1, I =>
    if (500 : Int32) ≤ a1 then
      some I
    else
      Option.bind (fX2_hasMore I) fun x11 =>
      if x11 = 0 then
        some I
      else
        Option.bind (fX2_kindNow I) fun x12 =>
        Option.bind (
            if x12 = (8 : Int32) then
              Option.bind (fX7_readBuoy I) fun I13 =>
              some I13
            else if x12 = (9 : Int32) then
              Option.bind (fX7_readRope I) fun I14 =>
              some I14
            else if x12 = (10 : Int32) then
              Option.bind (fX2_takeKind (10 : Int32) I) fun I15 =>
              ob2 (fX2_takeNumber (0 : Int32) (99999 : Int32) I15) fun x16 I17 =>
              some (wr I17 25 6 x16)
            else 
              Option.bind (fX2_fail (1 : Int32) I) fun I18 =>
              some I18) fun I19 =>
        Option.bind (fX2_takeKind (3 : Int32) I19) fun I20 =>
        fX7_readSetup_L85 n9 (a1 + (1 : Int32)) I20
def fX7_readSetup (I : Mem) : Option Mem :=
  Option.bind (fX5_clear 25 I) fun I1 =>
  Option.bind (fX2_scan I1) fun I2 =>
  Option.bind (fX2_takeKind (7 : Int32) I2) fun I3 =>
  ob2 (fX2_takeNumber (0 : Int32) (999 : Int32) I3) fun x4 I5 =>
  ob2 (fX2_takeNumber (1 : Int32) (9 : Int32) (wr I5 25 3 x4)) fun x6 I7 =>
  ob2 (fX2_takeNumber (1 : Int32) (9 : Int32) (wr I7 25 4 x6)) fun x8 I9 =>
  Option.bind (fX2_takeKind (3 : Int32) (wr I9 25 5 x8)) fun I10 =>
  Option.bind (fX7_readSetup_L85 zF (0 : Int32) I10) fun I21 =>
  Option.bind (
      if (2 : Int32) ≤ (I21 26 0) then
        some I21
      else
        Option.bind (fX2_fail (5 : Int32) I21) fun I22 =>
        some I22) fun I23 =>
  some I23
def fX7_closeText (I : Mem) : Option (Int32 × Mem) :=
  plet (
      if ((wr (wr (wr I 0 12 (I 56 6)) 0 13 ((wr I 0 12 (I 56 6)) 56 7)) 56 1 (0 : Int32)) 0 12) = 0 then
        (1 : Int32)
      else
        (0 : Int32)) fun x1 =>
  Option.bind (zbo x1) fun v9 =>
  some (v9, (wr (wr (wr I 0 12 (I 56 6)) 0 13 ((wr I 0 12 (I 56 6)) 56 7)) 56 1 (0 : Int32)))
def fX7_load (I : Mem) : Option (Int32 × Mem) :=
  Option.bind (fX7_readSetup I) fun I1 =>
  ob2 (fX7_closeText I1) fun x2 I3 =>
  if x2 = 0 then
    some ((-1 : Int32), I3)
  else
    Option.bind (fX5_copyFrom 1 25 (wr I3 25 10 (I3 25 6))) fun I4 =>
    some (((wr I4 0 3 (0 : Int32)) 2 0), (wr I4 0 3 (0 : Int32)))
def fX7_isCommand (a0 : Int32) : Option Int32 :=
  plet (
      if a0 = (11 : Int32) then
        (1 : Int32)
      else
        if a0 = (12 : Int32) then
          (1 : Int32)
        else
          if a0 = (13 : Int32) then
            (1 : Int32)
          else
            if a0 = (14 : Int32) then
              (1 : Int32)
            else
              if a0 = (15 : Int32) then
                (1 : Int32)
              else
                if a0 = (10 : Int32) then
                  (1 : Int32)
                else
                  (0 : Int32)) fun x1 =>
  Option.bind (zbo x1) fun v9 =>
  some v9
def fX7_takeCommandWord (I : Mem) : Option (Int32 × Mem) :=
  Option.bind (fX2_kindNow I) fun x1 =>
  Option.bind (fX7_isCommand x1) fun x2 =>
  Option.bind (
      if x2 = 0 then
        Option.bind (fX2_fail (1 : Int32) I) fun I4 =>
        some I4
      else
        if (I 61 0) < (40 : Int32) then
          some I
        else
          Option.bind (fX2_fail (4 : Int32) I) fun I3 =>
          some I3) fun I5 =>
  Option.bind (fX2_takeKind x1 I5) fun I6 =>
  Option.bind (fX4_begin x1 I6) fun I7 =>
  some (x1, I7)
def fX7_readReports_L4  : Nat → Int32 → Int32 → Mem → Option Mem
  | 0, _, _, _ => none
  | n9+1, a2, a1, I =>
    if (10 : Int32) < a2 then
      some I
    else
      Option.bind (fX2_hasMore I) fun x1 =>
      if x1 = 0 then
        some I
      else
        Option.bind (fX2_kindNow I) fun x2 =>
        if x2 = (1 : Int32) then
          ob2 (fX2_lookNumber (0 : Int32) ((I 2 0) - (1 : Int32)) I) fun x3 I4 =>
          Option.bind (fX7_has a1 x3) fun x5 =>
          Option.bind (
              if x5 = 0 then
                some I4
              else
                Option.bind (fX2_fail (3 : Int32) I4) fun I6 =>
                some I6) fun I7 =>
          Option.bind (fX2_takeKind (1 : Int32) I7) fun I8 =>
          Option.bind (fX4_add x3 I8) fun I9 =>
          ob2 (fX2_takeSigned (9999 : Int32) I9) fun x10 I11 =>
          Option.bind (fX4_add x10 I11) fun I12 =>
          fX7_readReports_L4 n9 (a2 + (1 : Int32)) (a1 ||| ((1 : Int32) <<< (x3 &&& 31))) I12
        else
          some I
def fX7_readReports (I : Mem) : Option Mem :=
  Option.bind (fX7_readReports_L4 zF (0 : Int32) (0 : Int32) I) fun I13 =>
  some I13
def fX7_readHitBuoys (I : Mem) : Option Mem :=
  ob2 (fX2_takeNumber (0 : Int32) ((I 2 0) - (1 : Int32)) I) fun x1 I2 =>
  ob2 (fX2_lookNumber (0 : Int32) ((I 2 0) - (1 : Int32)) I2) fun x3 I4 =>
  Option.bind (
      if x1 ≤ x3 then
        some I4
      else
        Option.bind (fX2_fail (3 : Int32) I4) fun I5 =>
        some I5) fun I6 =>
  Option.bind (fX2_takeKind (1 : Int32) I6) fun I7 =>
  Option.bind (fX4_add x1 I7) fun I8 =>
  Option.bind (fX4_add x3 I8) fun I9 =>
  some I9
def fX7_readScript_L27 (a1 : Int32) : Nat → Int32 → Mem → Option Mem
  | 0, _, _ => none
  | n9+1, a2, I =>
    if (500 : Int32) ≤ a2 then
      some I
    else
      Option.bind (fX2_hasMore I) fun x3 =>
      if x3 = 0 then
        some I
      else
        ob2 (fX7_takeCommandWord I) fun x4 I5 =>
        Option.bind (
            if x4 = (10 : Int32) then
              ob2 (fX2_takeNumber (1 : Int32) (9999 : Int32) I5) fun x6 I7 =>
              Option.bind (fX4_add x6 I7) fun I8 =>
              some I8
            else if x4 = (11 : Int32) then
              Option.bind (fX7_readReports I5) fun I9 =>
              some I9
            else if x4 = (12 : Int32) then
              ob2 (fX2_takeNumber (1 : Int32) (99 : Int32) I5) fun x10 I11 =>
              Option.bind (fX4_add x10 I11) fun I12 =>
              Option.bind (fX7_readHitBuoys I12) fun I13 =>
              some I13
            else if x4 = (13 : Int32) then
              ob2 (fX2_takeNumber (0 : Int32) (a1 - (2 : Int32)) I5) fun x14 I15 =>
              Option.bind (fX4_add x14 I15) fun I16 =>
              some I16
            else if x4 = (14 : Int32) then
              ob2 (fX2_takeNumber (1 : Int32) (99 : Int32) I5) fun x17 I18 =>
              Option.bind (fX4_add x17 I18) fun I19 =>
              some I19
            else if x4 = (15 : Int32) then
              ob2 (fX2_takeNumber (0 : Int32) (a1 - (1 : Int32)) I5) fun x20 I21 =>
              Option.bind (fX4_add x20 I21) fun I22 =>
              some I22
            else 
              some I5) fun I23 =>
        Option.bind (fX2_takeKind (3 : Int32) I23) fun I24 =>
        fX7_readScript_L27 a1 n9 (a2 + (1 : Int32)) I24
def fX7_readScript (I : Mem) : Option Mem :=
  Option.bind (fX4_clear I) fun I1 =>
  Option.bind (fX2_scan I1) fun I2 =>
  Option.bind (fX7_readScript_L27 (I2 2 0) zF (0 : Int32) I2) fun I25 =>
  some I25
def fX7_checkBuoy (a1 : Int32) (I : Mem) : Option Nat :=
  if a1 < 0 then
    some 1
  else
    if a1 < (I 2 0) then
      some 0
    else
      some 1
def fX7_beginAct (I : Mem) : Option Mem :=
  Option.bind (rld 8 (I 0 4)) fun j1 =>
  Option.bind (fX5_copyFrom (66 + 24 * j1) 1 I) fun I2 =>
  Option.bind (rmi ((I2 0 4) + (1 : Int32)) (8 : Int32)) fun x3 =>
  Option.bind (ald (wr (wr I2 0 4 x3) 0 3 (imin (((wr I2 0 4 x3) 0 3) + (1 : Int32)) (8 : Int32))) 51 5 (0 : Int32)) fun x4 =>
  Option.bind (ast (wr (wr I2 0 4 x3) 0 3 (imin (((wr I2 0 4 x3) 0 3) + (1 : Int32)) (8 : Int32))) 51 5 (0 : Int32) (x4 + (1 : Int32))) fun I5 =>
  some I5
def fX7_report (a1 : Int32) (a2 : Int32) (I : Mem) : Option (Nat × Int32 × Mem) :=
  Option.bind (fX7_checkBuoy a1 I) fun e1 =>
  if e1 = 0 then
    if a2 < (-9999 : Int32) then
      some (2, 0, I)
    else
      if a2 ≤ (9999 : Int32) then
        Option.bind (fX7_beginAct I) fun I2 =>
        Option.bind (ast (wr I2 2 1 ((I2 2 1) ||| ((1 : Int32) <<< (a1 &&& 31)))) 11 10 a1 a2) fun I3 =>
        Option.bind (fJ6_bitCount_0f7a4 (I3 2 1)) fun x4 =>
        some (0, x4, I3)
      else
        some (2, 0, I)
  else
    some (e1, 0, I)
def fX7_endHour (I : Mem) : Option (Int32 × Mem) :=
  Option.bind (fX7_beginAct I) fun I1 =>
  ob2 (fX5_openRow 1 I1) fun x2 I3 =>
  Option.bind (fX5_tellLevel 1 x2 I3) fun I4 =>
  Option.bind (ald I4 18 24 x2) fun x5 =>
  ob2 (
      if x5 = (1 : Int32) then
        Option.bind (fX5_countStrikes 1 x2 I4) fun I6 =>
        Option.bind (fX5_countAgreed 1 x2 I6) fun I7 =>
        Option.bind (fX5_trustAgain 1 I7) fun I8 =>
        ob2 (fX5_dragVoters 1 x2 I8) fun x9 I10 =>
        some (x9, I10)
      else
        some ((0 : Int32), I4)) fun x11 I12 =>
  Option.bind (fX5_takeOut 1 x11 (wr I12 1 7 ((I12 1 7) + (1 : Int32)))) fun I13 =>
  Option.bind (fX0_forgetReports 1 I13) fun I14 =>
  Option.bind (fJ6_bitCount_0f7a4 x11) fun x15 =>
  some (x15, I14)
def fX7_checkForce (a1 : Int32) : Option Nat :=
  if a1 < (1 : Int32) then
    some 2
  else
    if a1 ≤ (99 : Int32) then
      some 0
    else
      some 2
def fX7_checkStorm (a1 : Int32) (a2 : Int32) (a3 : Int32) (I : Mem) : Option Nat :=
  Option.bind (fX7_checkBuoy a2 I) fun e1 =>
  if e1 = 0 then
    Option.bind (fX7_checkBuoy a3 I) fun e2 =>
    if e2 = 0 then
      Option.bind (fX7_checkForce a1) fun e3 =>
      if e3 = 0 then
        if a2 ≤ a3 then
          some 0
        else
          some 2
      else
        some e3
    else
      some e2
  else
    some e1
def fX7_storm (a1 : Int32) (a2 : Int32) (a3 : Int32) (I : Mem) : Option (Nat × Int32 × Mem) :=
  Option.bind (fX7_checkStorm a1 a2 a3 I) fun e1 =>
  if e1 = 0 then
    Option.bind (fX7_beginAct I) fun I2 =>
    ob2 (fX5_blow 1 a1 a2 a3 I2) fun x3 I4 =>
    some (0, x3, I4)
  else
    some (e1, 0, I)
def fX7_checkRope (a1 : Int32) (I : Mem) : Option Nat :=
  if a1 < 0 then
    some 1
  else
    if a1 < ((I 2 0) - (1 : Int32)) then
      some 0
    else
      some 1
def fX7_refuse (a1 : Int32) (I : Mem) : Option (Int32 × Mem) :=
  Option.bind (
      if a1 ≤ 0 then
        some I
      else
        if (Int32.ofNat 5) ≤ a1 then
          some I
        else
          Option.bind (ald I 51 5 a1) fun x1 =>
          Option.bind (ast I 51 5 a1 (x1 + (1 : Int32))) fun I2 =>
          some I2) fun I3 =>
  some ((-a1), I3)
def fX7_remake (a1 : Int32) (I : Mem) : Option (Nat × Int32 × Mem) :=
  Option.bind (fX7_checkRope a1 I) fun e1 =>
  if e1 = 0 then
    Option.bind (fX7_has (I 12 0) a1) fun x2 =>
    if x2 = 0 then
      Option.bind (ald I 14 10 a1) fun x8 =>
      if x8 = 0 then
        ob2 (fX7_refuse (1 : Int32) I) fun x14 I15 =>
        some (0, x14, I15)
      else
        Option.bind (fX0_distanceBehind 1 a1 I) fun x9 =>
        if x9 ≤ (I 1 6) then
          Option.bind (fX7_beginAct I) fun I10 =>
          Option.bind (fX5_renew 1 ((1 : Int32) <<< (a1 &&& 31)) I10) fun I11 =>
          some (0, (I11 1 6), I11)
        else
          ob2 (fX7_refuse (2 : Int32) I) fun x12 I13 =>
          some (0, x12, I13)
    else
      Option.bind (fX0_distanceBehind 1 a1 I) fun x3 =>
      if x3 ≤ (I 1 6) then
        Option.bind (fX7_beginAct I) fun I4 =>
        Option.bind (fX5_renew 1 ((1 : Int32) <<< (a1 &&& 31)) I4) fun I5 =>
        some (0, (I5 1 6), I5)
      else
        ob2 (fX7_refuse (2 : Int32) I) fun x6 I7 =>
        some (0, x6, I7)
  else
    some (e1, 0, I)
def fX7_remakeBy (a1 : Int32) (I : Mem) : Option (Nat × Int32 × Mem) :=
  Option.bind (fX7_checkForce a1) fun e1 =>
  if e1 = 0 then
    Option.bind (fX5_planFor 1 a1 I) fun x2 =>
    if x2 = (-1 : Int32) then
      ob2 (fX7_refuse (3 : Int32) I) fun x6 I7 =>
      some (0, x6, I7)
    else
      Option.bind (fX7_beginAct I) fun I3 =>
      Option.bind (fX5_renew 1 x2 I3) fun I4 =>
      Option.bind (fJ6_bitCount_0f7a4 x2) fun x5 =>
      some (0, x5, I4)
  else
    some (e1, 0, I)
def fX7_haul (a1 : Int32) (I : Mem) : Option (Nat × Int32 × Mem) :=
  Option.bind (fX7_checkBuoy a1 I) fun e1 =>
  if e1 = 0 then
    Option.bind (ald I 7 10 a1) fun x2 =>
    if x2 = (2 : Int32) then
      Option.bind (fX7_beginAct I) fun I3 =>
      Option.bind (fX0_putUnderSuspicion 1 a1 I3) fun I4 =>
      Option.bind (fX0_membersIn 1 (2 : Int32) I4) fun x5 =>
      Option.bind (fJ6_bitCount_0f7a4 x5) fun x6 =>
      some (0, x6, I4)
    else
      ob2 (fX7_refuse (1 : Int32) I) fun x7 I8 =>
      some (0, x7, I8)
  else
    some (e1, 0, I)
def fX7_addStock (a1 : Int32) (I : Mem) : Option (Nat × Int32 × Mem) :=
  if a1 < (1 : Int32) then
    some (2, 0, I)
  else
    if a1 ≤ (9999 : Int32) then
      if ((I 1 6) + a1) ≤ (99999 : Int32) then
        Option.bind (fX7_beginAct I) fun I1 =>
        some (0, ((wr (wr I1 1 6 ((I1 1 6) + a1)) 1 10 (((wr I1 1 6 ((I1 1 6) + a1)) 1 10) + a1)) 1 6), (wr (wr I1 1 6 ((I1 1 6) + a1)) 1 10 (((wr I1 1 6 ((I1 1 6) + a1)) 1 10) + a1)))
      else
        ob2 (fX7_refuse (4 : Int32) I) fun x2 I3 =>
        some (0, x2, I3)
    else
      some (2, 0, I)
def fX7_runCommand_L58 (a1 : Int32) : Nat → Int32 → Mem → Option Mem
  | 0, _, _ => none
  | n9+1, a3, I =>
    Option.bind (fX4_arguments a1 I) fun x7 =>
    if x7 ≤ a3 then
      some I
    else
      Option.bind (fX4_argument a1 a3 I) fun x8 =>
      Option.bind (fX4_argument a1 (a3 + (1 : Int32)) I) fun x9 =>
      ob3 (fX7_report x8 x9 I) fun e10 x11 I12 =>
      if e10 = 0 then
        fX7_runCommand_L58 a1 n9 (a3 + (2 : Int32)) I12
      else
        none
def fX7_runCommand (a1 : Int32) (I : Mem) : Option (Nat × Int32 × Mem) :=
  Option.bind (fX4_argument a1 (0 : Int32) I) fun x1 =>
  Option.bind (fX4_kindOf a1 I) fun x2 =>
  if x2 = (10 : Int32) then
    ob3 (fX7_addStock x1 I) fun e3 x4 I5 =>
    if e3 = 0 then
      plet (
          if x4 < 0 then
            (0 : Int32)
          else
            (1 : Int32)) fun x6 =>
      Option.bind (zbo x6) fun v9 =>
      some (0, v9, I5)
    else
      some (e3, 0, I5)
  else if x2 = (11 : Int32) then
    Option.bind (fX7_runCommand_L58 a1 zF (0 : Int32) I) fun I13 =>
    ob2 (fX7_endHour I13) fun x14 I15 =>
    plet (
        if x14 < 0 then
          (0 : Int32)
        else
          (1 : Int32)) fun x16 =>
    Option.bind (zbo x16) fun v9 =>
    some (0, v9, I15)
  else if x2 = (12 : Int32) then
    Option.bind (fX4_argument a1 (1 : Int32) I) fun x17 =>
    Option.bind (fX4_argument a1 (2 : Int32) I) fun x18 =>
    ob3 (fX7_storm x1 x17 x18 I) fun e19 x20 I21 =>
    if e19 = 0 then
      plet (
          if x20 < 0 then
            (0 : Int32)
          else
            (1 : Int32)) fun x22 =>
      Option.bind (zbo x22) fun v9 =>
      some (0, v9, I21)
    else
      some (e19, 0, I21)
  else if x2 = (13 : Int32) then
    ob3 (fX7_remake x1 I) fun e23 x24 I25 =>
    if e23 = 0 then
      plet (
          if x24 < 0 then
            (0 : Int32)
          else
            (1 : Int32)) fun x26 =>
      Option.bind (zbo x26) fun v9 =>
      some (0, v9, I25)
    else
      some (e23, 0, I25)
  else if x2 = (14 : Int32) then
    ob3 (fX7_remakeBy x1 I) fun e27 x28 I29 =>
    if e27 = 0 then
      plet (
          if x28 < 0 then
            (0 : Int32)
          else
            (1 : Int32)) fun x30 =>
      Option.bind (zbo x30) fun v9 =>
      some (0, v9, I29)
    else
      some (e27, 0, I29)
  else if x2 = (15 : Int32) then
    ob3 (fX7_haul x1 I) fun e31 x32 I33 =>
    if e31 = 0 then
      plet (
          if x32 < 0 then
            (0 : Int32)
          else
            (1 : Int32)) fun x34 =>
      Option.bind (zbo x34) fun v9 =>
      some (0, v9, I33)
    else
      some (e31, 0, I33)
  else 
    Option.bind (zbo (0 : Int32)) fun v9 =>
    some (0, v9, I)
def fX7_play_L15  : Nat → Int32 → Mem → Option (Int32 × Mem)
  | 0, _, _ => none
  | n9+1, a1, I =>
    if (I 61 0) ≤ a1 then
      some (a1, I)
    else
      ob3 (fX7_runCommand a1 I) fun e4 x5 I6 =>
      if e4 = 0 then
        if x5 = 0 then
          some (a1, I6)
        else
          fX7_play_L15 n9 (a1 + (1 : Int32)) I6
      else
        none
def fX7_play (I : Mem) : Option (Nat × Int32 × Mem) :=
  Option.bind (fX7_readScript I) fun I1 =>
  ob2 (fX7_closeText I1) fun x2 I3 =>
  if x2 = 0 then
    some (0, (-1 : Int32), I3)
  else
    ob2 (fX7_play_L15 zF (0 : Int32) I3) fun x7 I8 =>
    some (0, x7, I8)
def fX7_errorCode (I : Mem) : Option Int32 :=
  some (I 0 12)
def fX7_errorPosition (I : Mem) : Option Int32 :=
  some (I 0 13)
def fX7_hoursWithLevel_L10  : Nat → Int32 → Int32 → Mem → Option Int32
  | 0, _, _, _ => none
  | n9+1, a2, a1, I =>
    if (I 1 7) ≤ a2 then
      some a1
    else
      Option.bind (fX5_rowOf 1 a2) fun x2 =>
      Option.bind (ald I 18 24 x2) fun x3 =>
      fX7_hoursWithLevel_L10 n9 (a2 + (1 : Int32)) (a1 + x3) I
def fX7_hoursWithLevel (I : Mem) : Option Int32 :=
  Option.bind (fX5_firstKept 1 I) fun x1 =>
  Option.bind (fX7_hoursWithLevel_L10 zF x1 (0 : Int32) I) fun x4 =>
  some x4
def fX7_size (a1 : Int32) (I : Mem) : Option (Nat × Int32) :=
  if a1 = (0 : Int32) then
    some (0, (I 2 0))
  else if a1 = (1 : Int32) then
    some (0, (I 1 7))
  else if a1 = (2 : Int32) then
    Option.bind (fX5_firstKept 1 I) fun x1 =>
    some (0, ((I 1 7) - x1))
  else if a1 = (3 : Int32) then
    Option.bind (fX0_membersIn 1 (0 : Int32) I) fun x2 =>
    Option.bind (fJ6_bitCount_0f7a4 x2) fun x3 =>
    some (0, x3)
  else if a1 = (4 : Int32) then
    Option.bind (fX0_membersIn 1 (1 : Int32) I) fun x4 =>
    Option.bind (fJ6_bitCount_0f7a4 x4) fun x5 =>
    some (0, x5)
  else if a1 = (5 : Int32) then
    Option.bind (fX0_membersIn 1 (2 : Int32) I) fun x6 =>
    Option.bind (fJ6_bitCount_0f7a4 x6) fun x7 =>
    some (0, x7)
  else if a1 = (6 : Int32) then
    Option.bind (fJ6_bitCount_0f7a4 (I 12 0)) fun x8 =>
    some (0, x8)
  else if a1 = (7 : Int32) then
    some (0, (I 1 6))
  else if a1 = (8 : Int32) then
    some (0, (I 1 3))
  else if a1 = (9 : Int32) then
    some (0, (I 1 4))
  else if a1 = (10 : Int32) then
    some (0, (I 1 5))
  else if a1 = (11 : Int32) then
    some (0, (I 1 8))
  else if a1 = (12 : Int32) then
    some (0, (I 0 3))
  else if a1 = (13 : Int32) then
    Option.bind (fX7_hoursWithLevel I) fun x9 =>
    some (0, x9)
  else if a1 = (14 : Int32) then
    some (0, (I 1 9))
  else if a1 = (15 : Int32) then
    some (0, (I 1 10))
  else if a1 = (16 : Int32) then
    some (0, (I 1 11))
  else 
    some (2, 0)
def fX7_buoy (a1 : Int32) (a2 : Int32) (I : Mem) : Option (Nat × Int32) :=
  Option.bind (fX7_checkBuoy a1 I) fun e1 =>
  if e1 = 0 then
    if a2 = (0 : Int32) then
      Option.bind (ald I 3 10 a1) fun x2 =>
      some (0, x2)
    else if a2 = (1 : Int32) then
      Option.bind (ald I 4 10 a1) fun x3 =>
      some (0, x3)
    else if a2 = (2 : Int32) then
      Option.bind (ald I 5 10 a1) fun x4 =>
      some (0, x4)
    else if a2 = (3 : Int32) then
      Option.bind (ald I 6 10 a1) fun x5 =>
      some (0, x5)
    else if a2 = (4 : Int32) then
      Option.bind (ald I 7 10 a1) fun x6 =>
      some (0, x6)
    else if a2 = (5 : Int32) then
      Option.bind (ald I 8 10 a1) fun x7 =>
      some (0, x7)
    else if a2 = (6 : Int32) then
      Option.bind (ald I 9 10 a1) fun x8 =>
      some (0, x8)
    else if a2 = (7 : Int32) then
      Option.bind (ald I 10 10 a1) fun x9 =>
      some (0, x9)
    else if a2 = (8 : Int32) then
      Option.bind (fX7_has (I 2 1) a1) fun x10 =>
      plet (
          if x10 = 0 then
            (0 : Int32)
          else
            (1 : Int32)) fun x11 =>
      some (0, x11)
    else if a2 = (9 : Int32) then
      Option.bind (ald I 11 10 a1) fun x12 =>
      some (0, x12)
    else 
      some (2, 0)
  else
    some (e1, 0)
def fX7_rope (a1 : Int32) (a2 : Int32) (I : Mem) : Option (Nat × Int32) :=
  Option.bind (fX7_checkRope a1 I) fun e1 =>
  if e1 = 0 then
    if a2 = (0 : Int32) then
      Option.bind (fX0_distanceBehind 1 a1 I) fun x2 =>
      some (0, x2)
    else if a2 = (1 : Int32) then
      Option.bind (ald I 13 10 a1) fun x3 =>
      some (0, x3)
    else if a2 = (2 : Int32) then
      Option.bind (ald I 14 10 a1) fun x4 =>
      some (0, x4)
    else if a2 = (3 : Int32) then
      Option.bind (fX7_has (I 12 0) a1) fun x5 =>
      plet (
          if x5 = 0 then
            (0 : Int32)
          else
            (1 : Int32)) fun x6 =>
      some (0, x6)
    else 
      some (2, 0)
  else
    some (e1, 0)
def fX7_account (a1 : Int32) (I : Mem) : Option (Nat × Int32) :=
  if a1 < 0 then
    some (2, 0)
  else
    if a1 < (Int32.ofNat 5) then
      Option.bind (ald I 51 5 a1) fun x1 =>
      some (0, x1)
    else
      some (2, 0)
def fX7_rowOfKept (a1 : Int32) (I : Mem) : Option (Nat × Int32) :=
  Option.bind (fX5_firstKept 1 I) fun x1 =>
  if a1 < x1 then
    some (1, 0)
  else
    if a1 < (I 1 7) then
      Option.bind (fX5_rowOf 1 a1) fun x2 =>
      some (0, x2)
    else
      some (1, 0)
def fX7_hour (a1 : Int32) (a2 : Int32) (I : Mem) : Option (Nat × Int32) :=
  ob2 (fX7_rowOfKept a1 I) fun e1 x2 =>
  if e1 = 0 then
    if a2 = (0 : Int32) then
      Option.bind (ald I 16 24 x2) fun x3 =>
      some (0, x3)
    else if a2 = (1 : Int32) then
      Option.bind (ald I 17 24 x2) fun x4 =>
      some (0, x4)
    else if a2 = (2 : Int32) then
      Option.bind (ald I 18 24 x2) fun x5 =>
      some (0, x5)
    else if a2 = (3 : Int32) then
      Option.bind (ald I 20 24 x2) fun x6 =>
      Option.bind (fJ6_bitCount_0f7a4 x6) fun x7 =>
      some (0, x7)
    else if a2 = (4 : Int32) then
      Option.bind (ald I 23 24 x2) fun x8 =>
      some (0, x8)
    else 
      some (2, 0)
  else
    some (e1, 0)
def fX7_level (a1 : Int32) (I : Mem) : Option (Nat × Int32) :=
  ob2 (fX7_rowOfKept a1 I) fun e1 x2 =>
  if e1 = 0 then
    Option.bind (ald I 18 24 x2) fun x3 =>
    if x3 = 0 then
      some (4, 0)
    else
      Option.bind (ald I 19 24 x2) fun x4 =>
      some (0, x4)
  else
    some (e1, 0)
def fX7_value (a1 : Int32) (a2 : Int32) (I : Mem) : Option (Nat × Int32) :=
  ob2 (fX7_rowOfKept a1 I) fun e1 x2 =>
  if e1 = 0 then
    Option.bind (fX7_checkBuoy a2 I) fun e3 =>
    if e3 = 0 then
      Option.bind (ald I 20 24 x2) fun x4 =>
      Option.bind (fX7_has x4 a2) fun x5 =>
      if x5 = 0 then
        some (4, 0)
      else
        Option.bind (ald I 24 240 ((x2 * (10 : Int32)) + a2)) fun x6 =>
        some (0, x6)
    else
      some (e3, 0)
  else
    some (e1, 0)
def fX7_why (a1 : Int32) (a2 : Int32) (I : Mem) : Option (Nat × Int32) :=
  ob2 (fX7_rowOfKept a1 I) fun e1 x2 =>
  if e1 = 0 then
    Option.bind (fX7_checkBuoy a2 I) fun e3 =>
    if e3 = 0 then
      Option.bind (ald I 20 24 x2) fun x4 =>
      Option.bind (fX7_has x4 a2) fun x5 =>
      if x5 = 0 then
        some (0, (1 : Int32))
      else
        Option.bind (ald I 21 24 x2) fun x6 =>
        Option.bind (fX7_has x6 a2) fun x7 =>
        if x7 = 0 then
          Option.bind (ald I 22 24 x2) fun x8 =>
          Option.bind (fX7_has x8 a2) fun x9 =>
          if x9 = 0 then
            Option.bind (ald I 23 24 x2) fun x10 =>
            Option.bind (fX7_has x10 a2) fun x11 =>
            if x11 = 0 then
              Option.bind (ald I 18 24 x2) fun x12 =>
              if x12 = 0 then
                some (0, (6 : Int32))
              else
                Option.bind (ald I 17 24 x2) fun x13 =>
                Option.bind (fX7_has x13 a2) fun x14 =>
                plet (
                    if x14 = 0 then
                      (4 : Int32)
                    else
                      (0 : Int32)) fun x15 =>
                some (0, x15)
            else
              some (0, (5 : Int32))
          else
            some (0, (3 : Int32))
        else
          some (0, (2 : Int32))
    else
      some (e3, 0)
  else
    some (e1, 0)
def fX7_rowWithLevelAhead_L4  : Nat → Int32 → Mem → Option (Nat × Int32)
  | 0, _, _ => none
  | n9+1, a2, I =>
    Option.bind (fX5_firstKept 1 I) fun x1 =>
    if a2 < x1 then
      some (0, 0)
    else
      Option.bind (fX5_rowOf 1 a2) fun x2 =>
      Option.bind (ald I 18 24 x2) fun x3 =>
      if x3 = (1 : Int32) then
        some (1, x2)
      else
        fX7_rowWithLevelAhead_L4 n9 (a2 + (-1 : Int32)) I
def fX7_rowWithLevelAhead (a1 : Int32) (I : Mem) : Option Int32 :=
  ob2 (fX7_rowWithLevelAhead_L4 zF (a1 - (1 : Int32)) I) fun t4 x5 =>
  if t4 = 1 then
    some x5
  else
    some (-1 : Int32)
def fX7_tide (a1 : Int32) (I : Mem) : Option (Nat × Int32) :=
  ob2 (fX7_rowOfKept a1 I) fun e1 x2 =>
  if e1 = 0 then
    Option.bind (fX7_rowWithLevelAhead a1 I) fun x3 =>
    Option.bind (ald I 18 24 x2) fun x4 =>
    if x4 = 0 then
      some (4, 0)
    else
      if x3 = (-1 : Int32) then
        some (4, 0)
      else
        Option.bind (ald I 19 24 x2) fun x5 =>
        Option.bind (ald I 19 24 x3) fun x6 =>
        plet (
            if x5 ≤ x6 then
              if x6 ≤ x5 then
                (0 : Int32)
              else
                (-1 : Int32)
            else
              (1 : Int32)) fun x7 =>
        some (0, x7)
  else
    some (e1, 0)
def fX7_extreme_L13 (a1 : Int32) : Nat → Int32 → Int32 → Int32 → Mem → Option Int32
  | 0, _, _, _, _ => none
  | n9+1, a4, a3, a2, I =>
    if (I 1 7) ≤ a4 then
      some a2
    else
      Option.bind (fX5_rowOf 1 a4) fun x2 =>
      Option.bind (ald I 18 24 x2) fun x3 =>
      ob2 (
          if x3 = (1 : Int32) then
            Option.bind (ald I 19 24 x2) fun x4 =>
            if a2 = (-1 : Int32) then
              some (x4, a4)
            else
              if a1 = 0 then
                if x4 ≤ a3 then
                  some (a3, a2)
                else
                  some (x4, a4)
              else
                if a3 ≤ x4 then
                  some (a3, a2)
                else
                  some (x4, a4)
          else
            some (a3, a2)) fun x5 x6 =>
      fX7_extreme_L13 a1 n9 (a4 + (1 : Int32)) x5 x6 I
def fX7_extreme (a1 : Int32) (I : Mem) : Option Int32 :=
  Option.bind (fX5_firstKept 1 I) fun x1 =>
  Option.bind (fX7_extreme_L13 a1 zF x1 (0 : Int32) (-1 : Int32) I) fun x7 =>
  some x7
def fX7_meanLevel_L21 (a1 : Int32) : Nat → Int32 → Int32 → Mem → Option Int32
  | 0, _, _, _ => none
  | n9+1, a3, a2, I =>
    if (I 1 7) ≤ a3 then
      some a2
    else
      Option.bind (fX5_rowOf 1 a3) fun x3 =>
      Option.bind (ald I 18 24 x3) fun x4 =>
      Option.bind (
          if x4 = (1 : Int32) then
            Option.bind (ald I 19 24 x3) fun x5 =>
            some (a2 + x5)
          else
            some a2) fun x6 =>
      fX7_meanLevel_L21 a1 n9 (a3 + (1 : Int32)) x6 I
def fX7_meanLevel (I : Mem) : Option UInt64 :=
  Option.bind (fX7_hoursWithLevel I) fun x1 =>
  if x1 = 0 then
    some (0 : UInt64)
  else
    Option.bind (fX5_firstKept 1 I) fun x2 =>
    Option.bind (fX7_meanLevel_L21 x1 zF x2 (0 : Int32) I) fun x7 =>
    Option.bind (ddvn (FP.i2d x7) (FP.i2d x1)) fun x8 =>
    some x8
def fX7_agreement (a1 : Int32) (I : Mem) : Option (Nat × UInt32) :=
  ob2 (fX7_rowOfKept a1 I) fun e1 x2 =>
  if e1 = 0 then
    Option.bind (ald I 16 24 x2) fun x3 =>
    Option.bind (fX0_votesOf 1 x3 I) fun x4 =>
    if x4 = 0 then
      some (0, (0 : UInt32))
    else
      Option.bind (ald I 17 24 x2) fun x5 =>
      Option.bind (fX0_votesOf 1 x5 I) fun x6 =>
      Option.bind (fdvn (FP.i2f x6) (FP.i2f x4)) fun x7 =>
      some (0, x7)
  else
    some (e1, 0)
def fX7_levelNow (I : Mem) : Option (Nat × Int32 × Mem) :=
  Option.bind (fX0_tellValues 1 55 (0 : Int32) I) fun I1 =>
  Option.bind (fX0_membersIn 1 (0 : Int32) I1) fun x2 =>
  Option.bind (fX6_count 4 55 ((I1 2 1) &&& x2) (0 : Int32) (I1 1 3) I1) fun I3 =>
  if (I3 52 1) = 0 then
    some (4, 0, I3)
  else
    some (0, (I3 52 2), I3)
def fX7_levelWithout (a1 : Int32) (a2 : Int32) (I : Mem) : Option (Nat × Int32 × Mem) :=
  ob2 (fX7_rowOfKept a1 I) fun e1 x2 =>
  if e1 = 0 then
    Option.bind (ald I 16 24 x2) fun x3 =>
    Option.bind (fX5_countRow 1 x2 (x3 &&& (a2 ^^^ (-1 : Int32))) I) fun I4 =>
    if (I4 52 1) = 0 then
      some (4, 0, I4)
    else
      some (0, (I4 52 2), I4)
  else
    some (e1, 0, I)
def fX7_needed_L25 (a3 : Int32) (a2 : Int32) : Nat → Int32 → Int32 → Mem → Option (Int32 × Mem)
  | 0, _, _, _ => none
  | n9+1, a5, a4, I =>
    if (I 2 0) ≤ a5 then
      some (a4, I)
    else
      Option.bind (fX7_has a3 a5) fun x4 =>
      ob2 (
          if x4 = 0 then
            some (a4, I)
          else
            Option.bind (fX5_countRow 1 a2 (a3 &&& (((1 : Int32) <<< (a5 &&& 31)) ^^^ (-1 : Int32))) I) fun I5 =>
            if (I5 52 1) = 0 then
              some ((a4 ||| ((1 : Int32) <<< (a5 &&& 31))), I5)
            else
              some (a4, I5)) fun x6 I7 =>
      fX7_needed_L25 a3 a2 n9 (a5 + (1 : Int32)) x6 I7
def fX7_needed (a1 : Int32) (I : Mem) : Option (Nat × Int32 × Mem) :=
  ob2 (fX7_rowOfKept a1 I) fun e1 x2 =>
  if e1 = 0 then
    Option.bind (ald I 16 24 x2) fun x3 =>
    ob2 (fX7_needed_L25 x3 x2 zF (0 : Int32) (0 : Int32) I) fun x8 I9 =>
    some (0, x8, I9)
  else
    some (e1, 0, I)
def fX7_segments (I : Mem) : Option Int32 :=
  Option.bind (fJ6_bitCount_0f7a4 (I 12 0)) fun x1 =>
  some (x1 + (1 : Int32))
def fX7_segmentOf_L9 (a1 : Int32) : Nat → Int32 → Int32 → Mem → Option (Nat × Int32 × Int32)
  | 0, _, _, _ => none
  | n9+1, a3, a2, I =>
    if (I 2 0) ≤ a3 then
      some (0, 0, a2)
    else
      Option.bind (fX5_endsSegment 1 a3 (I 12 0) I) fun x2 =>
      if x2 = 0 then
        fX7_segmentOf_L9 a1 n9 (a3 + (1 : Int32)) (a2 ||| ((1 : Int32) <<< (a3 &&& 31))) I
      else
        Option.bind (fX7_has (a2 ||| ((1 : Int32) <<< (a3 &&& 31))) a1) fun x3 =>
        if x3 = 0 then
          fX7_segmentOf_L9 a1 n9 (a3 + (1 : Int32)) (0 : Int32) I
        else
          some (1, (a2 ||| ((1 : Int32) <<< (a3 &&& 31))), (a2 ||| ((1 : Int32) <<< (a3 &&& 31))))
def fX7_segmentOf (a1 : Int32) (I : Mem) : Option (Nat × Int32) :=
  Option.bind (fX7_checkBuoy a1 I) fun e1 =>
  if e1 = 0 then
    ob3 (fX7_segmentOf_L9 a1 zF (0 : Int32) (0 : Int32) I) fun t4 x5 x6 =>
    if t4 = 1 then
      some (0, x5)
    else
      some (0, x6)
  else
    some (e1, 0)
def fX7_weakest_L6  : Nat → Int32 → Int32 → Int32 → Mem → Option Int32
  | 0, _, _, _, _ => none
  | n9+1, a3, a2, a1, I =>
    if ((I 2 0) - (1 : Int32)) ≤ a3 then
      some a1
    else
      Option.bind (ald I 13 10 a3) fun x1 =>
      Option.bind (ald I 14 10 a3) fun x2 =>
      Option.bind (fX7_has (I 12 0) a3) fun x3 =>
      pl2 (
          if x3 = 0 then
            if a1 = (-1 : Int32) then
              ((x1 - x2), a3)
            else
              if a2 ≤ (x1 - x2) then
                (a2, a1)
              else
                ((x1 - x2), a3)
          else
            (a2, a1)) fun x4 x5 =>
      fX7_weakest_L6 n9 (a3 + (1 : Int32)) x4 x5 I
def fX7_weakest (I : Mem) : Option Int32 :=
  Option.bind (fX7_weakest_L6 zF (0 : Int32) (0 : Int32) (-1 : Int32) I) fun x6 =>
  some x6
def fX7_wouldBreak (a1 : Int32) (a2 : Int32) (a3 : Int32) (I : Mem) : Option (Nat × Int32) :=
  Option.bind (fX7_checkStorm a1 a2 a3 I) fun e1 =>
  if e1 = 0 then
    Option.bind (fX5_breaking 1 a1 a2 a3 I) fun x2 =>
    some (0, x2)
  else
    some (e1, 0)
def fX7_wouldDrift (a1 : Int32) (a2 : Int32) (a3 : Int32) (I : Mem) : Option (Nat × Int32) :=
  Option.bind (fX7_checkStorm a1 a2 a3 I) fun e1 =>
  if e1 = 0 then
    Option.bind (fX5_drifting 1 a1 a2 a3 I) fun x2 =>
    some (0, x2)
  else
    some (e1, 0)
def fX7_leastStorm_L2  : Nat → Int32 → Mem → Option (Nat × Int32)
  | 0, _, _ => none
  | n9+1, a1, I =>
    if (99 : Int32) < a1 then
      some (0, 0)
    else
      Option.bind (fX5_drifting 1 a1 (0 : Int32) ((I 2 0) - (1 : Int32)) I) fun x1 =>
      if x1 = 0 then
        fX7_leastStorm_L2 n9 (a1 + (1 : Int32)) I
      else
        some (1, a1)
def fX7_leastStorm (I : Mem) : Option Int32 :=
  ob2 (fX7_leastStorm_L2 zF (1 : Int32) I) fun t2 x3 =>
  if t2 = 1 then
    some x3
  else
    some (-1 : Int32)
def fX7_lacks (a1 : Int32) (I : Mem) : Option (Nat × Int32) :=
  Option.bind (fX7_checkForce a1) fun e1 =>
  if e1 = 0 then
    Option.bind (fX5_lacking 1 a1 (I 12 0) I) fun x2 =>
    some (0, x2)
  else
    some (e1, 0)
def fX7_plan (a1 : Int32) (I : Mem) : Option (Nat × Int32) :=
  Option.bind (fX7_checkForce a1) fun e1 =>
  if e1 = 0 then
    Option.bind (fX5_planFor 1 a1 I) fun x2 =>
    some (0, x2)
  else
    some (e1, 0)
def fX7_planLength (a1 : Int32) (I : Mem) : Option (Nat × Int32) :=
  Option.bind (fX7_checkForce a1) fun e1 =>
  if e1 = 0 then
    Option.bind (fX5_planFor 1 a1 I) fun x2 =>
    Option.bind (
        if x2 = (-1 : Int32) then
          some (-1 : Int32)
        else
          Option.bind (fX5_lengthOf 1 x2 I) fun x3 =>
          some x3) fun x4 =>
    some (0, x4)
  else
    some (e1, 0)
def fX7_setOffset (a1 : Int32) (a2 : Int32) (I : Mem) : Option (Nat × Int32 × Mem) :=
  Option.bind (fX7_checkBuoy a1 I) fun e1 =>
  if e1 = 0 then
    if a2 < (-99 : Int32) then
      some (2, 0, I)
    else
      if a2 ≤ (99 : Int32) then
        Option.bind (fX7_beginAct I) fun I2 =>
        Option.bind (ald I2 6 10 a1) fun x3 =>
        Option.bind (ast I2 6 10 a1 a2) fun I4 =>
        some (0, (x3 + (99 : Int32)), I4)
      else
        some (2, 0, I)
  else
    some (e1, 0, I)
def fX7_setHold (a1 : Int32) (a2 : Int32) (I : Mem) : Option (Nat × Int32 × Mem) :=
  Option.bind (fX7_checkBuoy a1 I) fun e1 =>
  if e1 = 0 then
    if a2 < 0 then
      some (2, 0, I)
    else
      if a2 ≤ (99 : Int32) then
        Option.bind (fX7_beginAct I) fun I2 =>
        Option.bind (ald I2 5 10 a1) fun x3 =>
        Option.bind (ast I2 5 10 a1 a2) fun I4 =>
        some (0, x3, I4)
      else
        some (2, 0, I)
  else
    some (e1, 0, I)
def fX7_setTerms (a1 : Int32) (a2 : Int32) (a3 : Int32) (I : Mem) : Option (Nat × Int32 × Mem) :=
  if a1 < 0 then
    some (2, 0, I)
  else
    if (999 : Int32) < a1 then
      some (2, 0, I)
    else
      if a2 < (1 : Int32) then
        some (2, 0, I)
      else
        if (9 : Int32) < a2 then
          some (2, 0, I)
        else
          if a3 < (1 : Int32) then
            some (2, 0, I)
          else
            if a3 ≤ (9 : Int32) then
              Option.bind (fX7_beginAct I) fun I1 =>
              some (0, (I1 1 3), (wr (wr (wr I1 1 3 a1) 1 4 a2) 1 5 a3))
            else
              some (2, 0, I)
def fX7_put (a1 : Int32) (I : Mem) : Option Mem :=
  Option.bind (
      if (Int32.ofNat 500) ≤ (I 0 15) then
        some I
      else
        Option.bind (ast I 65 500 (I 0 15) a1) fun I1 =>
        some (wr I1 0 15 ((I1 0 15) + (1 : Int32)))) fun I2 =>
  some I2
def fX7_putNumber_L22 (a2 : Int32) : Nat → Int32 → Int32 → Mem → Option Mem
  | 0, _, _, _ => none
  | n9+1, a4, a3, I =>
    if a4 < (1 : Int32) then
      some I
    else
      Option.bind (dvi a2 a4) fun x4 =>
      Option.bind (rmi x4 (10 : Int32)) fun x5 =>
      plet (
          if a3 = 0 then
            if 0 < x5 then
              (1 : Int32)
            else
              if a4 = (1 : Int32) then
                (1 : Int32)
              else
                (0 : Int32)
          else
            (1 : Int32)) fun x6 =>
      Option.bind (
          if x6 = 0 then
            some I
          else
            Option.bind (fX7_put ((48 : Int32) + x5) I) fun I7 =>
            some I7) fun I8 =>
      Option.bind (dvi a4 (10 : Int32)) fun x9 =>
      fX7_putNumber_L22 a2 n9 x9 x6 I8
def fX7_putNumber (a1 : Int32) (I : Mem) : Option Mem :=
  ob2 (
      if 0 ≤ a1 then
        some (a1, I)
      else
        Option.bind (fX7_put (45 : Int32) I) fun I1 =>
        some ((-a1), I1)) fun x2 I3 =>
  Option.bind (fX7_putNumber_L22 x2 zF (1000000000 : Int32) (0 : Int32) I3) fun I10 =>
  some I10
def fX7_letterOf (a0 : Int32) : Option Int32 :=
  plet (
      if a0 = 0 then
        (84 : Int32)
      else
        if a0 = (1 : Int32) then
          (83 : Int32)
        else
          (68 : Int32)) fun x1 =>
  Option.bind (zch x1) fun v9 =>
  some v9
def fX7_writeString_L18 (a1 : Int32) : Nat → Int32 → Mem → Option Mem
  | 0, _, _ => none
  | n9+1, a2, I =>
    if a1 ≤ a2 then
      some I
    else
      Option.bind (fX7_putNumber a2 I) fun I1 =>
      Option.bind (ald I1 7 10 a2) fun x2 =>
      Option.bind (fX7_letterOf x2) fun x3 =>
      Option.bind (fX7_put x3 I1) fun I4 =>
      Option.bind (
          if (a1 - (1 : Int32)) ≤ a2 then
            some I4
          else
            Option.bind (fX7_has (I4 12 0) a2) fun x5 =>
            plet (
                if x5 = 0 then
                  (45 : Int32)
                else
                  (32 : Int32)) fun x6 =>
            Option.bind (fX7_put x6 I4) fun I7 =>
            some I7) fun I8 =>
      fX7_writeString_L18 a1 n9 (a2 + (1 : Int32)) I8
def fX7_writeString (I : Mem) : Option (Int32 × Mem) :=
  Option.bind (fX7_writeString_L18 ((wr I 0 15 (0 : Int32)) 2 0) zF (0 : Int32) (wr I 0 15 (0 : Int32))) fun I9 =>
  some ((I9 0 15), I9)
def fX7_writeHours_L13  : Nat → Int32 → Mem → Option Mem
  | 0, _, _ => none
  | n9+1, a1, I =>
    if (I 1 7) ≤ a1 then
      some I
    else
      Option.bind (fX5_rowOf 1 a1) fun x2 =>
      Option.bind (
          if (I 0 15) ≤ 0 then
            some I
          else
            Option.bind (fX7_put (32 : Int32) I) fun I3 =>
            some I3) fun I4 =>
      Option.bind (fX7_putNumber a1 I4) fun I5 =>
      Option.bind (ald I5 18 24 x2) fun x6 =>
      Option.bind (
          if x6 = (1 : Int32) then
            Option.bind (fX7_put (61 : Int32) I5) fun I8 =>
            Option.bind (ald I8 19 24 x2) fun x9 =>
            Option.bind (fX7_putNumber x9 I8) fun I10 =>
            some I10
          else
            Option.bind (fX7_put (63 : Int32) I5) fun I7 =>
            some I7) fun I11 =>
      fX7_writeHours_L13 n9 (a1 + (1 : Int32)) I11
def fX7_writeHours (I : Mem) : Option (Int32 × Mem) :=
  Option.bind (fX5_firstKept 1 (wr I 0 15 (0 : Int32))) fun x1 =>
  Option.bind (fX7_writeHours_L13 zF x1 (wr I 0 15 (0 : Int32))) fun I12 =>
  some ((I12 0 15), I12)
def fX7_output (a1 : Int32) (I : Mem) : Option (Nat × Int32) :=
  if a1 < 0 then
    some (1, 0)
  else
    if a1 < (I 0 15) then
      Option.bind (ald I 65 500 a1) fun x1 =>
      some (0, x1)
    else
      some (1, 0)
def fX7_undo (I : Mem) : Option (Nat × Int32 × Mem) :=
  if (I 0 3) = 0 then
    some (3, 0, I)
  else
    Option.bind (fJ9_floorMod_7cf53 ((I 0 4) - (1 : Int32)) (8 : Int32)) fun x1 =>
    Option.bind (rld 8 ((wr (wr I 0 4 x1) 0 3 (((wr I 0 4 x1) 0 3) - (1 : Int32))) 0 4)) fun j2 =>
    Option.bind (fX5_copyFrom 1 (66 + 24 * j2) (wr (wr I 0 4 x1) 0 3 (((wr I 0 4 x1) 0 3) - (1 : Int32)))) fun I3 =>
    some (0, (I3 0 3), I3)
def fX7_checkSlot (a1 : Int32) : Option Nat :=
  if a1 < 0 then
    some 1
  else
    if a1 < (2 : Int32) then
      some 0
    else
      some 1
def fX7_save (a1 : Int32) (I : Mem) : Option (Nat × Int32 × Mem) :=
  Option.bind (fX7_checkSlot a1) fun e1 =>
  if e1 = 0 then
    Option.bind (rld 2 a1) fun j2 =>
    Option.bind (fX5_copyFrom (258 + 24 * j2) 1 I) fun I3 =>
    some (0, ((wr I3 0 6 ((I3 0 6) ||| ((1 : Int32) <<< (a1 &&& 31)))) 1 7), (wr I3 0 6 ((I3 0 6) ||| ((1 : Int32) <<< (a1 &&& 31)))))
  else
    some (e1, 0, I)
def fX7_restore (a1 : Int32) (I : Mem) : Option (Nat × Int32 × Mem) :=
  Option.bind (fX7_checkSlot a1) fun e1 =>
  if e1 = 0 then
    Option.bind (fX7_has (I 0 6) a1) fun x2 =>
    if x2 = 0 then
      some (3, 0, I)
    else
      Option.bind (rld 2 a1) fun j3 =>
      Option.bind (fX5_copyFrom 1 (258 + 24 * j3) I) fun I4 =>
      some (0, ((wr I4 0 3 (0 : Int32)) 2 0), (wr I4 0 3 (0 : Int32)))
  else
    some (e1, 0, I)
def fX8_thrown (J : Mem) : Option Int32 :=
  some (J 306 0)
def fX8_empties_L2 (k0 : Nat) : Nat → Int32 → Mem → Option Mem
  | 0, _, _ => none
  | n9+1, a1, J =>
    if (574 : Int32) ≤ a1 then
      some J
    else
      Option.bind (ast J k0 (zb_ln k0) a1 (0 : Int32)) fun J1 =>
      fX8_empties_L2 k0 n9 (a1 + (1 : Int32)) J1
def fX8_empties_L21 (k0 : Nat) : Nat → Int32 → Mem → Option Mem
  | 0, _, _ => none
  | n9+1, a1, J =>
    if (10 : Int32) ≤ a1 then
      some J
    else
      Option.bind (ast J k0 (zb_ln k0) ((82 : Int32) + a1) (-1 : Int32)) fun J3 =>
      Option.bind (ast J3 k0 (zb_ln k0) ((112 : Int32) + a1) (10 : Int32)) fun J4 =>
      fX8_empties_L21 k0 n9 (a1 + (1 : Int32)) J4
def fX8_empties (k0 : Nat) (J : Mem) : Option Mem :=
  Option.bind (fX8_empties_L2 k0 zF (0 : Int32) J) fun J2 =>
  Option.bind (fX8_empties_L21 k0 zF (0 : Int32) J2) fun J5 =>
  some J5
def fX8_lays (k0 : Nat) (a1 : Int32) (a2 : Int32) (a3 : Int32) (a4 : Int32) (a5 : Int32) (J : Mem) : Option Mem :=
  Option.bind (ast J k0 (zb_ln k0) ((12 : Int32) + a1) a2) fun J1 =>
  Option.bind (ast J1 k0 (zb_ln k0) ((22 : Int32) + a1) a3) fun J2 =>
  Option.bind (ast J2 k0 (zb_ln k0) ((32 : Int32) + a1) a4) fun J3 =>
  Option.bind (ast J3 k0 (zb_ln k0) ((42 : Int32) + a1) a5) fun J4 =>
  some J4
def fX8_within (a0 : Int32) (a1 : Int32) (a2 : Int32) : Option Int32 :=
  plet (
      if a0 < a1 then
        (0 : Int32)
      else
        if a2 < a0 then
          (0 : Int32)
        else
          (1 : Int32)) fun x1 =>
  Option.bind (zbo x1) fun v9 =>
  some v9
def fX8_has (a0 : Int32) (a1 : Int32) : Option Int32 :=
  plet (
      if ((a0 >>> (a1 &&& 31)) &&& (1 : Int32)) = (1 : Int32) then
        (1 : Int32)
      else
        (0 : Int32)) fun x1 =>
  Option.bind (zbo x1) fun v9 =>
  some v9
def fX8_bits_L4 (a0 : Int32) : Nat → Int32 → Int32 → Option Int32
  | 0, _, _ => none
  | n9+1, a2, a1 =>
    if (10 : Int32) ≤ a2 then
      some a1
    else
      fX8_bits_L4 a0 n9 (a2 + (1 : Int32)) (a1 + ((a0 >>> (a2 &&& 31)) &&& (1 : Int32)))
def fX8_bits (a0 : Int32) : Option Int32 :=
  Option.bind (fX8_bits_L4 a0 zF (0 : Int32) (0 : Int32)) fun x1 =>
  some x1
def fX8_off (a0 : Int32) (a1 : Int32) : Option Int32 :=
  plet (
      if a1 ≤ a0 then
        (a0 - a1)
      else
        (a1 - a0)) fun x1 =>
  some x1
def fX8_throwsIf (a1 : Int32) (a2 : Int32) (J : Mem) : Option (Int32 × Mem) :=
  plet (
      if (J 306 0) = 0 then
        if a1 = 0 then
          J
        else
          (wr J 306 0 a2)
      else
        J) fun J1 =>
  plet (
      if (J1 306 0) ≤ 0 then
        (0 : Int32)
      else
        (1 : Int32)) fun x2 =>
  Option.bind (zbo x2) fun v9 =>
  some (v9, J1)
def fX8_noBuoy (a1 : Int32) (J : Mem) : Option (Int32 × Mem) :=
  Option.bind (ald J 307 574 (0 : Int32)) fun x1 =>
  Option.bind (fX8_within a1 (0 : Int32) (x1 - (1 : Int32))) fun x2 =>
  plet (
      if x2 = 0 then
        (1 : Int32)
      else
        (0 : Int32)) fun x3 =>
  ob2 (fX8_throwsIf x3 (1 : Int32) J) fun x4 J5 =>
  Option.bind (zbo x4) fun v9 =>
  some (v9, J5)
def fX8_noRope (a1 : Int32) (J : Mem) : Option (Int32 × Mem) :=
  Option.bind (ald J 307 574 (0 : Int32)) fun x1 =>
  Option.bind (fX8_within a1 (0 : Int32) (x1 - (2 : Int32))) fun x2 =>
  plet (
      if x2 = 0 then
        (1 : Int32)
      else
        (0 : Int32)) fun x3 =>
  ob2 (fX8_throwsIf x3 (1 : Int32) J) fun x4 J5 =>
  Option.bind (zbo x4) fun v9 =>
  some (v9, J5)
def fX8_bytesIn_L5 (a0 : Int32) : Nat → Int32 → Int32 → Option Int32
  | 0, _, _ => none
  | n9+1, a2, a1 =>
    if a2 < 0 then
      some a1
    else
      plet (
          if ((a0 >>> (a2 &&& 31)) &&& (255 : Int32)) = 0 then
            (0 : Int32)
          else
            (1 : Int32)) fun x1 =>
      fX8_bytesIn_L5 a0 n9 (a2 + (-8 : Int32)) (a1 + x1)
def fX8_bytesIn (a0 : Int32) : Option Int32 :=
  Option.bind (fX8_bytesIn_L5 a0 zF (24 : Int32) (0 : Int32)) fun x2 =>
  some x2
def fX8_puts_L3 (a1 : Int32) : Nat → Int32 → Mem → Option Mem
  | 0, _, _ => none
  | n9+1, a2, J =>
    if a2 < 0 then
      some J
    else
      Option.bind (
          if ((a1 >>> (a2 &&& 31)) &&& (255 : Int32)) = 0 then
            some J
          else
            Option.bind (ast J 314 500 (J 306 10) (a1 >>> (a2 &&& 31)).toInt8.toInt32.toInt8.toInt32) fun J1 =>
            some (wr J1 306 10 ((J1 306 10) + (1 : Int32)))) fun J2 =>
      fX8_puts_L3 a1 n9 (a2 + (-8 : Int32)) J2
def fX8_puts (a1 : Int32) (J : Mem) : Option Mem :=
  Option.bind (fX8_puts_L3 a1 zF (24 : Int32) J) fun J3 =>
  some J3
def fX8_append (a1 : Int32) (a2 : Int32) (a3 : Int32) (a4 : Int32) (a5 : Int32) (J : Mem) : Option (Int32 × Mem) :=
  Option.bind (fX8_bytesIn a1) fun x1 =>
  Option.bind (fX8_bytesIn a2) fun x2 =>
  Option.bind (fX8_bytesIn a3) fun x3 =>
  Option.bind (fX8_bytesIn a4) fun x4 =>
  Option.bind (fX8_bytesIn a5) fun x5 =>
  plet (
      if (((((((wr J 306 0 (0 : Int32)) 306 10) + x1) + x2) + x3) + x4) + x5) ≤ (500 : Int32) then
        (0 : Int32)
      else
        (1 : Int32)) fun x6 =>
  ob2 (fX8_throwsIf x6 (1 : Int32) (wr J 306 0 (0 : Int32))) fun x7 J8 =>
  if x7 = 0 then
    Option.bind (fX8_puts a1 J8) fun J9 =>
    Option.bind (fX8_puts a2 J9) fun J10 =>
    Option.bind (fX8_puts a3 J10) fun J11 =>
    Option.bind (fX8_puts a4 J11) fun J12 =>
    Option.bind (fX8_puts a5 J12) fun J13 =>
    some ((J13 306 10), J13)
  else
    some ((0 : Int32), J8)
def fX8_byteAt (a1 : Int32) (J : Mem) : Option Int32 :=
  Option.bind (
      if (J 306 10) ≤ a1 then
        some (-1 : Int32)
      else
        Option.bind (ald J 314 500 a1) fun x1 =>
        some (x1 &&& (255 : Int32))) fun x2 =>
  some x2
def fX8_isLetter (a0 : Int32) : Option Int32 :=
  Option.bind (fX8_within a0 (97 : Int32) (122 : Int32)) fun x1 =>
  Option.bind (zbo x1) fun v9 =>
  some v9
def fX8_isDigit (a0 : Int32) : Option Int32 :=
  Option.bind (fX8_within a0 (48 : Int32) (57 : Int32)) fun x1 =>
  Option.bind (zbo x1) fun v9 =>
  some v9
def fX8_advance_L0  : Nat → Mem → Option Mem
  | 0, _ => none
  | n9+1, J =>
    Option.bind (fX8_byteAt (J 306 12) J) fun x1 =>
    if x1 = (32 : Int32) then
      fX8_advance_L0 n9 (wr J 306 12 ((J 306 12) + (1 : Int32)))
    else
      Option.bind (fX8_byteAt (J 306 12) J) fun x2 =>
      if x2 = (10 : Int32) then
        fX8_advance_L0 n9 (wr J 306 12 ((J 306 12) + (1 : Int32)))
      else
        some J
def fX8_advance_L125  : Nat → Mem → Option Mem
  | 0, _ => none
  | n9+1, J =>
    Option.bind (fX8_byteAt (J 306 12) J) fun x8 =>
    Option.bind (fX8_isDigit x8) fun x9 =>
    if x9 = 0 then
      some J
    else
      Option.bind (
          if (J 306 14) ≤ (999999 : Int32) then
            Option.bind (fX8_byteAt (J 306 12) J) fun x10 =>
            some ((((10 : Int32) * (J 306 14)) + x10) - (48 : Int32))
          else
            some (J 306 14)) fun x11 =>
      fX8_advance_L125 n9 (wr (wr J 306 14 x11) 306 12 (((wr J 306 14 x11) 306 12) + (1 : Int32)))
def fX8_advance_L86  : Nat → Mem → Option Mem
  | 0, _ => none
  | n9+1, J =>
    Option.bind (fX8_byteAt (J 306 12) J) fun x13 =>
    Option.bind (fX8_isLetter x13) fun x14 =>
    if x14 = 0 then
      some J
    else
      fX8_advance_L86 n9 (wr J 306 12 ((J 306 12) + (1 : Int32)))
def fX8_advance (J : Mem) : Option Mem :=
  Option.bind (fX8_advance_L0 zF J) fun J3 =>
  Option.bind (fX8_byteAt ((wr (wr J3 306 11 (J3 306 12)) 306 14 (0 : Int32)) 306 12) (wr (wr J3 306 11 (J3 306 12)) 306 14 (0 : Int32))) fun x4 =>
  Option.bind (
      if x4 = (-1 : Int32) then
        some (wr (wr (wr J3 306 11 (J3 306 12)) 306 14 (0 : Int32)) 306 13 (0 : Int32))
      else
        Option.bind (fX8_isLetter x4) fun x5 =>
        if x5 = 0 then
          Option.bind (fX8_isDigit x4) fun x6 =>
          if x6 = 0 then
            plet (
                if x4 = (59 : Int32) then
                  (4 : Int32)
                else
                  if x4 = (45 : Int32) then
                    (3 : Int32)
                  else
                    (5 : Int32)) fun x7 =>
            some (wr (wr (wr (wr J3 306 11 (J3 306 12)) 306 14 (0 : Int32)) 306 12 (((wr (wr J3 306 11 (J3 306 12)) 306 14 (0 : Int32)) 306 12) + (1 : Int32))) 306 13 x7)
          else
            Option.bind (fX8_advance_L125 zF (wr (wr (wr J3 306 11 (J3 306 12)) 306 14 (0 : Int32)) 306 13 (2 : Int32))) fun J12 =>
            some J12
        else
          Option.bind (fX8_advance_L86 zF (wr (wr (wr J3 306 11 (J3 306 12)) 306 14 (0 : Int32)) 306 13 (1 : Int32))) fun J15 =>
          some J15) fun J16 =>
  some J16
def fX8_isWord_L32 (w : Nat) : Nat → Int32 → Int32 → Mem → Option Int32
  | 0, _, _, _ => none
  | n9+1, a3, a2, J =>
    if (zb_sl w) ≤ a3 then
      some a2
    else
      if a2 = 0 then
        some a2
      else
        Option.bind (ald J 314 500 ((J 306 11) + a3)) fun x2 =>
        Option.bind (zb_sc w a3) fun x3 =>
        plet (
            if x2 = x3 then
              (1 : Int32)
            else
              (0 : Int32)) fun x4 =>
        fX8_isWord_L32 w n9 (a3 + (1 : Int32)) x4 J
def fX8_isWord (w : Nat) (J : Mem) : Option Int32 :=
  plet (
      if (J 306 13) = (1 : Int32) then
        if ((J 306 12) - (J 306 11)) = (zb_sl w) then
          (1 : Int32)
        else
          (0 : Int32)
      else
        (0 : Int32)) fun x1 =>
  Option.bind (fX8_isWord_L32 w zF (0 : Int32) x1 J) fun x5 =>
  Option.bind (zbo x5) fun v9 =>
  some v9
def fX8_fails (a1 : Int32) (J : Mem) : Option (Int32 × Mem) :=
  plet (
      if (J 306 15) = 0 then
        (wr (wr J 306 15 a1) 306 16 ((wr J 306 15 a1) 306 11))
      else
        J) fun J1 =>
  Option.bind (zbo (0 : Int32)) fun v9 =>
  some (v9, J1)
def fX8_starts (a1 : Int32) (a2 : Int32) (J : Mem) : Option (Int32 × Mem) :=
  if a2 = 0 then
    ob2 (fX8_fails a1 J) fun x2 J3 =>
    Option.bind (zbo x2) fun v9 =>
    some (v9, J3)
  else
    Option.bind (fX8_advance J) fun J1 =>
    Option.bind (zbo (1 : Int32)) fun v9 =>
    some (v9, J1)
def fX8_stands (a1 : Int32) (a2 : Int32) (J : Mem) : Option (Int32 × Mem) :=
  if (J 306 13) = (2 : Int32) then
    Option.bind (fX8_within ((wr J 306 17 (J 306 14)) 306 14) a1 a2) fun x1 =>
    ob2 (
        if x1 = 0 then
          ob2 (fX8_fails (2 : Int32) (wr J 306 17 (J 306 14))) fun x2 J3 =>
          if x2 = 0 then
            some ((0 : Int32), J3)
          else
            some ((1 : Int32), J3)
        else
          some ((1 : Int32), (wr J 306 17 (J 306 14)))) fun x4 J5 =>
    Option.bind (zbo x4) fun v9 =>
    some (v9, J5)
  else
    ob2 (fX8_fails (1 : Int32) J) fun x6 J7 =>
    Option.bind (zbo x6) fun v9 =>
    some (v9, J7)
def fX8_takes (a1 : Int32) (a2 : Int32) (J : Mem) : Option (Int32 × Mem) :=
  ob2 (fX8_stands a1 a2 J) fun x1 J2 =>
  ob2 (
      if x1 = 0 then
        some ((0 : Int32), J2)
      else
        ob2 (fX8_starts (1 : Int32) (1 : Int32) J2) fun x3 J4 =>
        if x3 = 0 then
          some ((0 : Int32), J4)
        else
          some ((1 : Int32), J4)) fun x5 J6 =>
  Option.bind (zbo x5) fun v9 =>
  some (v9, J6)
def fX8_takesSigned (a1 : Int32) (J : Mem) : Option (Int32 × Mem) :=
  plet (
      if (J 306 13) = (3 : Int32) then
        (1 : Int32)
      else
        (0 : Int32)) fun x1 =>
  Option.bind (
      if x1 = 0 then
        some J
      else
        Option.bind (fX8_advance J) fun J2 =>
        some J2) fun J3 =>
  ob2 (fX8_takes (0 : Int32) a1 J3) fun x4 J5 =>
  if x4 = 0 then
    Option.bind (zbo (0 : Int32)) fun v9 =>
    some (v9, J5)
  else
    plet (
        if x1 = 0 then
          (J5 306 17)
        else
          (-(J5 306 17))) fun x6 =>
    Option.bind (zbo (1 : Int32)) fun v9 =>
    some (v9, (wr J5 306 17 x6))
def fX8_stop (J : Mem) : Option (Int32 × Mem) :=
  plet (
      if (J 306 13) = (4 : Int32) then
        (1 : Int32)
      else
        (0 : Int32)) fun x1 =>
  ob2 (fX8_starts (1 : Int32) x1 J) fun x2 J3 =>
  Option.bind (zbo x2) fun v9 =>
  some (v9, J3)
def fX8_begins (J : Mem) : Option Mem :=
  Option.bind (fX8_advance (wr (wr (wr J 306 12 (0 : Int32)) 306 15 (0 : Int32)) 306 16 (-1 : Int32))) fun J1 =>
  some J1
def fX8_errorCode (J : Mem) : Option (Int32 × Mem) :=
  some (((wr J 306 0 (0 : Int32)) 306 15), (wr J 306 0 (0 : Int32)))
def fX8_errorPosition (J : Mem) : Option (Int32 × Mem) :=
  some (((wr J 306 0 (0 : Int32)) 306 16), (wr J 306 0 (0 : Int32)))
def fX8_takesInto (a1 : Int32) (a2 : Int32) (a3 : Int32) (J : Mem) : Option (Int32 × Mem) :=
  ob2 (fX8_takes a2 a3 J) fun x1 J2 =>
  if x1 = 0 then
    Option.bind (zbo (0 : Int32)) fun v9 =>
    some (v9, J2)
  else
    Option.bind (ast J2 309 574 a1 (J2 306 17)) fun J3 =>
    Option.bind (zbo (1 : Int32)) fun v9 =>
    some (v9, J3)
def fX8_readBuoy (J : Mem) : Option (Int32 × Mem) :=
  Option.bind (ald J 309 574 (0 : Int32)) fun x1 =>
  plet (
      if (10 : Int32) ≤ x1 then
        (0 : Int32)
      else
        (1 : Int32)) fun x2 =>
  ob2 (fX8_starts (4 : Int32) x2 J) fun x3 J4 =>
  if x3 = 0 then
    Option.bind (zbo (0 : Int32)) fun v9 =>
    some (v9, J4)
  else
    ob2 (fX8_stands (0 : Int32) (9999 : Int32) J4) fun x5 J6 =>
    if x5 = 0 then
      Option.bind (zbo (0 : Int32)) fun v9 =>
      some (v9, J6)
    else
      if x1 ≤ 0 then
        Option.bind (ast J6 309 574 ((12 : Int32) + x1) (J6 306 17)) fun J7 =>
        Option.bind (fX8_advance J7) fun J8 =>
        ob2 (fX8_takesInto ((22 : Int32) + x1) (1 : Int32) (9 : Int32) J8) fun x9 J10 =>
        if x9 = 0 then
          Option.bind (zbo (0 : Int32)) fun v9 =>
          some (v9, J10)
        else
          ob2 (fX8_takesInto ((32 : Int32) + x1) (0 : Int32) (99 : Int32) J10) fun x11 J12 =>
          if x11 = 0 then
            Option.bind (zbo (0 : Int32)) fun v9 =>
            some (v9, J12)
          else
            if (J12 306 13) = (3 : Int32) then
              ob2 (fX8_takesSigned (99 : Int32) J12) fun x13 J14 =>
              if x13 = 0 then
                Option.bind (zbo (0 : Int32)) fun v9 =>
                some (v9, J14)
              else
                Option.bind (ast J14 309 574 ((42 : Int32) + x1) (J14 306 17)) fun J15 =>
                Option.bind (ald J15 309 574 (0 : Int32)) fun x16 =>
                Option.bind (ast J15 309 574 (0 : Int32) (x16 + (1 : Int32))) fun J17 =>
                Option.bind (zbo (1 : Int32)) fun v9 =>
                some (v9, J17)
            else
              if (J12 306 13) = (2 : Int32) then
                ob2 (fX8_takesSigned (99 : Int32) J12) fun x20 J21 =>
                if x20 = 0 then
                  Option.bind (zbo (0 : Int32)) fun v9 =>
                  some (v9, J21)
                else
                  Option.bind (ast J21 309 574 ((42 : Int32) + x1) (J21 306 17)) fun J22 =>
                  Option.bind (ald J22 309 574 (0 : Int32)) fun x23 =>
                  Option.bind (ast J22 309 574 (0 : Int32) (x23 + (1 : Int32))) fun J24 =>
                  Option.bind (zbo (1 : Int32)) fun v9 =>
                  some (v9, J24)
              else
                Option.bind (ald J12 309 574 (0 : Int32)) fun x18 =>
                Option.bind (ast J12 309 574 (0 : Int32) (x18 + (1 : Int32))) fun J19 =>
                Option.bind (zbo (1 : Int32)) fun v9 =>
                some (v9, J19)
      else
        Option.bind (ald J6 309 574 (((12 : Int32) + x1) - (1 : Int32))) fun x25 =>
        if x25 < (J6 306 17) then
          Option.bind (ast J6 309 574 ((12 : Int32) + x1) (J6 306 17)) fun J26 =>
          Option.bind (fX8_advance J26) fun J27 =>
          ob2 (fX8_takesInto ((22 : Int32) + x1) (1 : Int32) (9 : Int32) J27) fun x28 J29 =>
          if x28 = 0 then
            Option.bind (zbo (0 : Int32)) fun v9 =>
            some (v9, J29)
          else
            ob2 (fX8_takesInto ((32 : Int32) + x1) (0 : Int32) (99 : Int32) J29) fun x30 J31 =>
            if x30 = 0 then
              Option.bind (zbo (0 : Int32)) fun v9 =>
              some (v9, J31)
            else
              if (J31 306 13) = (3 : Int32) then
                ob2 (fX8_takesSigned (99 : Int32) J31) fun x32 J33 =>
                if x32 = 0 then
                  Option.bind (zbo (0 : Int32)) fun v9 =>
                  some (v9, J33)
                else
                  Option.bind (ast J33 309 574 ((42 : Int32) + x1) (J33 306 17)) fun J34 =>
                  Option.bind (ald J34 309 574 (0 : Int32)) fun x35 =>
                  Option.bind (ast J34 309 574 (0 : Int32) (x35 + (1 : Int32))) fun J36 =>
                  Option.bind (zbo (1 : Int32)) fun v9 =>
                  some (v9, J36)
              else
                if (J31 306 13) = (2 : Int32) then
                  ob2 (fX8_takesSigned (99 : Int32) J31) fun x39 J40 =>
                  if x39 = 0 then
                    Option.bind (zbo (0 : Int32)) fun v9 =>
                    some (v9, J40)
                  else
                    Option.bind (ast J40 309 574 ((42 : Int32) + x1) (J40 306 17)) fun J41 =>
                    Option.bind (ald J41 309 574 (0 : Int32)) fun x42 =>
                    Option.bind (ast J41 309 574 (0 : Int32) (x42 + (1 : Int32))) fun J43 =>
                    Option.bind (zbo (1 : Int32)) fun v9 =>
                    some (v9, J43)
                else
                  Option.bind (ald J31 309 574 (0 : Int32)) fun x37 =>
                  Option.bind (ast J31 309 574 (0 : Int32) (x37 + (1 : Int32))) fun J38 =>
                  Option.bind (zbo (1 : Int32)) fun v9 =>
                  some (v9, J38)
        else
          ob2 (fX8_fails (3 : Int32) J6) fun x44 J45 =>
          Option.bind (zbo x44) fun v9 =>
          some (v9, J45)
def fX8_readRope (J : Mem) : Option (Int32 × Mem) :=
  Option.bind (ald J 309 574 (0 : Int32)) fun x1 =>
  ob2 (fX8_takes (0 : Int32) (x1 - (2 : Int32)) J) fun x2 J3 =>
  if x2 = 0 then
    Option.bind (zbo (0 : Int32)) fun v9 =>
    some (v9, J3)
  else
    ob2 (fX8_takesInto ((112 : Int32) + (J3 306 17)) (1 : Int32) (99 : Int32) J3) fun x4 J5 =>
    Option.bind (zbo x4) fun v9 =>
    some (v9, J5)
def fX8_readStatement (J : Mem) : Option (Int32 × Mem) :=
  Option.bind (fX8_isWord 1 J) fun x1 =>
  if x1 = 0 then
    Option.bind (fX8_isWord 2 J) fun x2 =>
    if x2 = 0 then
      Option.bind (fX8_isWord 3 J) fun x3 =>
      if x3 = 0 then
        ob2 (fX8_fails (1 : Int32) J) fun x7 J8 =>
        Option.bind (zbo x7) fun v9 =>
        some (v9, J8)
      else
        Option.bind (fX8_advance J) fun J4 =>
        ob2 (fX8_takesInto (4 : Int32) (0 : Int32) (99999 : Int32) J4) fun x5 J6 =>
        Option.bind (zbo x5) fun v9 =>
        some (v9, J6)
    else
      Option.bind (fX8_advance J) fun J9 =>
      ob2 (fX8_readRope J9) fun x10 J11 =>
      Option.bind (zbo x10) fun v9 =>
      some (v9, J11)
  else
    ob2 (fX8_readBuoy J) fun x12 J13 =>
    Option.bind (zbo x12) fun v9 =>
    some (v9, J13)
def fX8_copies_L3 (k0 : Nat) (k2 : Nat) (a1 : Int32) (a3 : Int32) : Nat → Int32 → Mem → Option Mem
  | 0, _, _ => none
  | n9+1, a4, J =>
    if (574 : Int32) ≤ a4 then
      some J
    else
      Option.bind (ald J k0 (zb_ln k0) (a1 + a4)) fun x1 =>
      Option.bind (ast J k2 (zb_ln k2) (a3 + a4) x1) fun J2 =>
      fX8_copies_L3 k0 k2 a1 a3 n9 (a4 + (1 : Int32)) J2
def fX8_copies (k0 : Nat) (k2 : Nat) (a1 : Int32) (a3 : Int32) (J : Mem) : Option Mem :=
  Option.bind (fX8_copies_L3 k0 k2 a1 a3 zF (0 : Int32) J) fun J3 =>
  some J3
def fX8_load_L77  : Nat → Int32 → Mem → Option (Int32 × Mem)
  | 0, _, _ => none
  | n9+1, a1, J =>
    if a1 = 0 then
      some (a1, J)
    else
      if (J 306 13) = 0 then
        some (a1, J)
      else
        ob2 (fX8_readStatement J) fun x16 J17 =>
        ob2 (
            if x16 = 0 then
              some ((0 : Int32), J17)
            else
              ob2 (fX8_stop J17) fun x18 J19 =>
              if x18 = 0 then
                some ((0 : Int32), J19)
              else
                some ((1 : Int32), J19)) fun x20 J21 =>
        fX8_load_L77 n9 x20 J21
def fX8_load (J : Mem) : Option (Int32 × Mem) :=
  Option.bind (fX8_begins (wr J 306 0 (0 : Int32))) fun J1 =>
  Option.bind (fX8_empties 309 J1) fun J2 =>
  Option.bind (fX8_isWord 0 J2) fun x3 =>
  ob2 (fX8_starts (1 : Int32) x3 J2) fun x4 J5 =>
  ob2 (
      if x4 = 0 then
        some ((0 : Int32), J5)
      else
        ob2 (fX8_takesInto (1 : Int32) (0 : Int32) (999 : Int32) J5) fun x6 J7 =>
        if x6 = 0 then
          some ((0 : Int32), J7)
        else
          ob2 (fX8_takesInto (2 : Int32) (1 : Int32) (9 : Int32) J7) fun x8 J9 =>
          if x8 = 0 then
            some ((0 : Int32), J9)
          else
            ob2 (fX8_takesInto (3 : Int32) (1 : Int32) (9 : Int32) J9) fun x10 J11 =>
            if x10 = 0 then
              some ((0 : Int32), J11)
            else
              ob2 (fX8_stop J11) fun x12 J13 =>
              if x12 = 0 then
                some ((0 : Int32), J13)
              else
                some ((1 : Int32), J13)) fun x14 J15 =>
  ob2 (fX8_load_L77 zF x14 J15) fun x22 J23 =>
  ob2 (
      if x22 = 0 then
        some ((0 : Int32), J23)
      else
        Option.bind (ald J23 309 574 (0 : Int32)) fun x24 =>
        if (1 : Int32) < x24 then
          some ((1 : Int32), J23)
        else
          ob2 (fX8_fails (5 : Int32) J23) fun x25 J26 =>
          if x25 = 0 then
            some ((0 : Int32), J26)
          else
            some ((1 : Int32), J26)) fun x27 J28 =>
  if x27 = 0 then
    some ((-1 : Int32), (wr J28 306 10 (0 : Int32)))
  else
    Option.bind (ald (wr J28 306 10 (0 : Int32)) 309 574 (4 : Int32)) fun x29 =>
    Option.bind (ast (wr J28 306 10 (0 : Int32)) 309 574 (9 : Int32) x29) fun J30 =>
    Option.bind (fX8_copies 309 307 (0 : Int32) (0 : Int32) J30) fun J31 =>
    Option.bind (ald (wr J31 306 8 (0 : Int32)) 307 574 (0 : Int32)) fun x32 =>
    some (x32, (wr J31 306 8 (0 : Int32)))
def fX8_votes_L4 (a1 : Int32) : Nat → Int32 → Int32 → Mem → Option Int32
  | 0, _, _, _ => none
  | n9+1, a3, a2, J =>
    Option.bind (ald J 307 574 (0 : Int32)) fun x1 =>
    if x1 ≤ a3 then
      some a2
    else
      Option.bind (fX8_has a1 a3) fun x2 =>
      Option.bind (
          if x2 = 0 then
            some (0 : Int32)
          else
            Option.bind (ald J 307 574 ((22 : Int32) + a3)) fun x3 =>
            some x3) fun x4 =>
      fX8_votes_L4 a1 n9 (a3 + (1 : Int32)) (a2 + x4) J
def fX8_votes (a1 : Int32) (J : Mem) : Option Int32 :=
  Option.bind (fX8_votes_L4 a1 zF (0 : Int32) (0 : Int32) J) fun x5 =>
  some x5
def fX8_votesUpTo_L5 (a1 : Int32) (a2 : Int32) : Nat → Int32 → Int32 → Mem → Option Int32
  | 0, _, _, _ => none
  | n9+1, a4, a3, J =>
    Option.bind (ald J 307 574 (0 : Int32)) fun x1 =>
    if x1 ≤ a4 then
      some a3
    else
      Option.bind (fX8_has a1 a4) fun x2 =>
      Option.bind (
          if x2 = 0 then
            some (0 : Int32)
          else
            Option.bind (ald J 315 10 a4) fun x3 =>
            if a2 < x3 then
              some (0 : Int32)
            else
              Option.bind (ald J 307 574 ((22 : Int32) + a4)) fun x4 =>
              some x4) fun x5 =>
      fX8_votesUpTo_L5 a1 a2 n9 (a4 + (1 : Int32)) (a3 + x5) J
def fX8_votesUpTo (a1 : Int32) (a2 : Int32) (J : Mem) : Option Int32 :=
  Option.bind (fX8_votesUpTo_L5 a1 a2 zF (0 : Int32) (0 : Int32) J) fun x6 =>
  some x6
def fX8_floor (a0 : Int32) (a1 : Int32) : Option Int32 :=
  Option.bind (dvi a0 a1) fun x1 =>
  Option.bind (rmi a0 a1) fun x2 =>
  plet (
      if 0 ≤ x2 then
        x1
      else
        (x1 - (1 : Int32))) fun x3 =>
  some x3
def fX8_tells_L32 (a2 : Int32) (a1 : Int32) : Nat → Int32 → Int32 → Mem → Option Int32
  | 0, _, _, _ => none
  | n9+1, a4, a3, J =>
    Option.bind (ald J 307 574 (0 : Int32)) fun x3 =>
    if x3 ≤ a4 then
      some a3
    else
      Option.bind (fX8_has a1 a4) fun x4 =>
      Option.bind (
          if x4 = 0 then
            some a3
          else
            Option.bind (ald J 315 10 a4) fun x5 =>
            if a3 ≤ x5 then
              some a3
            else
              Option.bind (ald J 315 10 a4) fun x6 =>
              Option.bind (fX8_votesUpTo a1 x6 J) fun x7 =>
              if ((2 : Int32) * x7) < a2 then
                some a3
              else
                Option.bind (ald J 315 10 a4) fun x8 =>
                some x8) fun x9 =>
      fX8_tells_L32 a2 a1 n9 (a4 + (1 : Int32)) x9 J
def fX8_tells_L101 (a3 : Int32) (a2 : Int32) (a1 : Int32) : Nat → Int32 → Int32 → Mem → Option (Int32 × Mem)
  | 0, _, _, _ => none
  | n9+1, a5, a4, J =>
    Option.bind (ald J 307 574 (0 : Int32)) fun x11 =>
    if x11 ≤ a5 then
      some (a4, J)
    else
      Option.bind (fX8_has a1 a5) fun x12 =>
      ob2 (
          if x12 = 0 then
            some (a4, J)
          else
            Option.bind (ald J 315 10 a5) fun x13 =>
            Option.bind (fX8_off x13 a3) fun x14 =>
            Option.bind (ald J 307 574 (1 : Int32)) fun x15 =>
            if x15 < x14 then
              some (a4, J)
            else
              Option.bind (ald (wr J 306 19 ((J 306 19) ||| ((1 : Int32) <<< (a5 &&& 31)))) 307 574 ((22 : Int32) + a5)) fun x16 =>
              Option.bind (ald (wr J 306 19 ((J 306 19) ||| ((1 : Int32) <<< (a5 &&& 31)))) 315 10 a5) fun x17 =>
              some ((a4 + (x16 * x17)), (wr J 306 19 ((J 306 19) ||| ((1 : Int32) <<< (a5 &&& 31)))))) fun x18 J19 =>
      fX8_tells_L101 a3 a2 a1 n9 (a5 + (1 : Int32)) x18 J19
def fX8_tells (a1 : Int32) (J : Mem) : Option Mem :=
  Option.bind (fX8_votes a1 J) fun x1 =>
  Option.bind (zput (wr J 306 19 (0 : Int32)) 306 20 (0 : Int32)) fun J2 =>
  if a1 = 0 then
    some (wr J2 306 21 (0 : Int32))
  else
    Option.bind (fX8_tells_L32 x1 a1 zF (0 : Int32) (100000 : Int32) (wr J2 306 21 (0 : Int32))) fun x10 =>
    ob2 (fX8_tells_L101 x10 x1 a1 zF (0 : Int32) (0 : Int32) (wr J2 306 21 (0 : Int32))) fun x20 J21 =>
    Option.bind (fX8_votes (J21 306 19) J21) fun x22 =>
    plet (
        if ((2 : Int32) * x22) ≤ x1 then
          (0 : Int32)
        else
          (1 : Int32)) fun x23 =>
    Option.bind (zput J21 306 20 x23) fun J24 =>
    Option.bind (
        if (J24 306 20) = 0 then
          some (0 : Int32)
        else
          Option.bind (fX8_floor x20 x22) fun x25 =>
          some x25) fun x26 =>
    some (wr J24 306 21 x26)
def fX8_hourPlace (a1 : Int32) : Option Int32 :=
  some ((142 : Int32) + ((18 : Int32) * a1))
def fX8_firstHour (J : Mem) : Option Int32 :=
  Option.bind (ald J 307 574 (5 : Int32)) fun x1 =>
  Option.bind (ald J 307 574 (6 : Int32)) fun x2 =>
  some (x1 - x2)
def fX8_of (a1 : Int32) (a2 : Int32) (J : Mem) : Option Int32 :=
  Option.bind (fX8_firstHour J) fun x1 =>
  Option.bind (fX8_hourPlace (a1 - x1)) fun x2 =>
  Option.bind (ald J 307 574 (x2 + a2)) fun x3 =>
  some x3
def fX8_laysValues_L2 (a1 : Int32) : Nat → Int32 → Mem → Option Mem
  | 0, _, _ => none
  | n9+1, a2, J =>
    if (10 : Int32) ≤ a2 then
      some J
    else
      Option.bind (fX8_of a1 ((8 : Int32) + a2) J) fun x1 =>
      Option.bind (ast J 315 10 a2 x1) fun J2 =>
      fX8_laysValues_L2 a1 n9 (a2 + (1 : Int32)) J2
def fX8_laysValues (a1 : Int32) (J : Mem) : Option Mem :=
  Option.bind (fX8_laysValues_L2 a1 zF (0 : Int32) J) fun J3 =>
  some J3
def fX8_sets (a1 : Int32) (a2 : Int32) (a3 : Int32) (J : Mem) : Option Mem :=
  Option.bind (fX8_firstHour J) fun x1 =>
  Option.bind (fX8_hourPlace (a1 - x1)) fun x2 =>
  Option.bind (ast J 307 574 (x2 + a2) a3) fun J3 =>
  some J3
def fX8_keepsLevel (a1 : Int32) (J : Mem) : Option Mem :=
  Option.bind (fX8_sets a1 (1 : Int32) (J 306 19) J) fun J1 =>
  plet (
      if (J1 306 20) = 0 then
        (0 : Int32)
      else
        (1 : Int32)) fun x2 =>
  Option.bind (fX8_sets a1 (2 : Int32) x2 J1) fun J3 =>
  Option.bind (fX8_sets a1 (5 : Int32) (J3 306 21) J3) fun J4 =>
  some J4
def fX8_reporters_L4 (a1 : Int32) : Nat → Int32 → Int32 → Mem → Option (Int32 × Mem)
  | 0, _, _, _ => none
  | n9+1, a3, a2, J =>
    Option.bind (ald J 307 574 (0 : Int32)) fun x1 =>
    if x1 ≤ a3 then
      some (a2, J)
    else
      Option.bind (ald J 307 574 ((92 : Int32) + a3)) fun x2 =>
      Option.bind (
          if x2 = (1 : Int32) then
            Option.bind (ald J 307 574 ((102 : Int32) + a3)) fun x3 =>
            Option.bind (ald J 307 574 ((42 : Int32) + a3)) fun x4 =>
            some (x3 - x4)
          else
            some (0 : Int32)) fun x5 =>
      Option.bind (ast J 315 10 a3 x5) fun J6 =>
      Option.bind (ald J6 307 574 ((92 : Int32) + a3)) fun x7 =>
      Option.bind (
          if x7 = (1 : Int32) then
            if a1 = (-1 : Int32) then
              some ((1 : Int32) <<< (a3 &&& 31))
            else
              Option.bind (ald J6 307 574 ((52 : Int32) + a3)) fun x8 =>
              if x8 = a1 then
                some ((1 : Int32) <<< (a3 &&& 31))
              else
                some (0 : Int32)
          else
            some (0 : Int32)) fun x9 =>
      fX8_reporters_L4 a1 n9 (a3 + (1 : Int32)) (a2 ||| x9) J6
def fX8_reporters (a1 : Int32) (J : Mem) : Option (Int32 × Mem) :=
  ob2 (fX8_reporters_L4 a1 zF (0 : Int32) (0 : Int32) J) fun x10 J11 =>
  some (x10, J11)
def fX8_newHour_L16  : Nat → Int32 → Mem → Option Mem
  | 0, _, _ => none
  | n9+1, a1, J =>
    if (574 : Int32) ≤ (a1 + (18 : Int32)) then
      some J
    else
      Option.bind (ald J 307 574 (a1 + (18 : Int32))) fun x2 =>
      Option.bind (ast J 307 574 a1 x2) fun J3 =>
      fX8_newHour_L16 n9 (a1 + (1 : Int32)) J3
def fX8_newHour_L72 (a1 : Int32) : Nat → Int32 → Mem → Option Mem
  | 0, _, _ => none
  | n9+1, a2, J =>
    if (18 : Int32) ≤ a2 then
      some J
    else
      Option.bind (ast J 307 574 (a1 + a2) (0 : Int32)) fun J10 =>
      fX8_newHour_L72 a1 n9 (a2 + (1 : Int32)) J10
def fX8_newHour (J : Mem) : Option (Int32 × Mem) :=
  Option.bind (ald J 307 574 (6 : Int32)) fun x1 =>
  Option.bind (
      if x1 = (24 : Int32) then
        Option.bind (fX8_newHour_L16 zF (142 : Int32) J) fun J4 =>
        Option.bind (ald J4 307 574 (6 : Int32)) fun x5 =>
        Option.bind (ast J4 307 574 (6 : Int32) (x5 - (1 : Int32))) fun J6 =>
        some J6
      else
        some J) fun J7 =>
  Option.bind (ald J7 307 574 (6 : Int32)) fun x8 =>
  Option.bind (fX8_hourPlace x8) fun x9 =>
  Option.bind (fX8_newHour_L72 x9 zF (0 : Int32) J7) fun J11 =>
  Option.bind (ald J11 307 574 (6 : Int32)) fun x12 =>
  Option.bind (ast J11 307 574 (6 : Int32) (x12 + (1 : Int32))) fun J13 =>
  some (x9, J13)
def fX8_strikes_L2 (a1 : Int32) : Nat → Int32 → Mem → Option Mem
  | 0, _, _ => none
  | n9+1, a2, J =>
    Option.bind (ald J 307 574 (0 : Int32)) fun x1 =>
    if x1 ≤ a2 then
      some J
    else
      Option.bind (fX8_has a1 a2) fun x2 =>
      Option.bind (
          if x2 = 0 then
            some J
          else
            Option.bind (fX8_has (J 306 19) a2) fun x3 =>
            if x3 = 0 then
              Option.bind (ald J 307 574 ((62 : Int32) + a2)) fun x4 =>
              Option.bind (
                  if x4 = 0 then
                    Option.bind (ald J 307 574 (5 : Int32)) fun x6 =>
                    some x6
                  else
                    Option.bind (ald J 307 574 ((82 : Int32) + a2)) fun x5 =>
                    some x5) fun x7 =>
              Option.bind (ast J 307 574 ((82 : Int32) + a2) x7) fun J8 =>
              Option.bind (ald J8 307 574 ((62 : Int32) + a2)) fun x9 =>
              Option.bind (ast J8 307 574 ((62 : Int32) + a2) (x9 + (1 : Int32))) fun J10 =>
              some J10
            else
              Option.bind (ast J 307 574 ((62 : Int32) + a2) (0 : Int32)) fun J11 =>
              Option.bind (ast J11 307 574 ((82 : Int32) + a2) (-1 : Int32)) fun J12 =>
              some J12) fun J13 =>
      fX8_strikes_L2 a1 n9 (a2 + (1 : Int32)) J13
def fX8_strikes (a1 : Int32) (J : Mem) : Option Mem :=
  Option.bind (fX8_strikes_L2 a1 zF (0 : Int32) J) fun J14 =>
  some J14
def fX8_agrees_L2 (a1 : Int32) : Nat → Int32 → Mem → Option Mem
  | 0, _, _ => none
  | n9+1, a2, J =>
    Option.bind (ald J 307 574 (0 : Int32)) fun x1 =>
    if x1 ≤ a2 then
      some J
    else
      Option.bind (fX8_has a1 a2) fun x2 =>
      Option.bind (
          if x2 = 0 then
            some J
          else
            Option.bind (ald J 315 10 a2) fun x3 =>
            Option.bind (fX8_off x3 (J 306 21)) fun x4 =>
            Option.bind (ald J 307 574 (1 : Int32)) fun x5 =>
            Option.bind (
                if x5 < x4 then
                  some (0 : Int32)
                else
                  Option.bind (ald J 307 574 ((72 : Int32) + a2)) fun x6 =>
                  some (x6 + (1 : Int32))) fun x7 =>
            Option.bind (ast J 307 574 ((72 : Int32) + a2) x7) fun J8 =>
            some J8) fun J9 =>
      fX8_agrees_L2 a1 n9 (a2 + (1 : Int32)) J9
def fX8_agrees_L74  : Nat → Int32 → Mem → Option Mem
  | 0, _, _ => none
  | n9+1, a2, J =>
    Option.bind (ald J 307 574 (0 : Int32)) fun x11 =>
    if x11 ≤ a2 then
      some J
    else
      Option.bind (ald J 307 574 ((52 : Int32) + a2)) fun x12 =>
      Option.bind (
          if x12 = (1 : Int32) then
            Option.bind (ald J 307 574 ((72 : Int32) + a2)) fun x13 =>
            Option.bind (ald J 307 574 (3 : Int32)) fun x14 =>
            if x13 < x14 then
              some J
            else
              Option.bind (ast J 307 574 ((52 : Int32) + a2) (0 : Int32)) fun J15 =>
              Option.bind (ast J15 307 574 ((72 : Int32) + a2) (0 : Int32)) fun J16 =>
              some J16
          else
            some J) fun J17 =>
      fX8_agrees_L74 n9 (a2 + (1 : Int32)) J17
def fX8_agrees (a1 : Int32) (J : Mem) : Option Mem :=
  Option.bind (fX8_agrees_L2 a1 zF (0 : Int32) J) fun J10 =>
  Option.bind (fX8_agrees_L74 zF (0 : Int32) J10) fun J18 =>
  some J18
def fX8_dragsOff_L4 (a1 : Int32) : Nat → Int32 → Int32 → Mem → Option (Int32 × Mem)
  | 0, _, _, _ => none
  | n9+1, a3, a2, J =>
    Option.bind (ald J 307 574 (0 : Int32)) fun x1 =>
    if x1 ≤ a3 then
      some (a2, J)
    else
      Option.bind (fX8_has a1 a3) fun x2 =>
      ob2 (
          if x2 = 0 then
            some (a2, J)
          else
            Option.bind (ald J 307 574 ((62 : Int32) + a3)) fun x3 =>
            Option.bind (ald J 307 574 (2 : Int32)) fun x4 =>
            if x3 < x4 then
              some (a2, J)
            else
              Option.bind (ast J 307 574 ((52 : Int32) + a3) (2 : Int32)) fun J5 =>
              some ((a2 ||| ((1 : Int32) <<< (a3 &&& 31))), J5)) fun x6 J7 =>
      fX8_dragsOff_L4 a1 n9 (a3 + (1 : Int32)) x6 J7
def fX8_dragsOff (a1 : Int32) (J : Mem) : Option (Int32 × Mem) :=
  ob2 (fX8_dragsOff_L4 a1 zF (0 : Int32) (0 : Int32) J) fun x8 J9 =>
  some (x8, J9)
def fX8_takesOut_L20 (a2 : Int32) (a1 : Int32) : Nat → Int32 → Int32 → Mem → Option Int32
  | 0, _, _, _ => none
  | n9+1, a4, a3, J =>
    Option.bind (ald J 307 574 (0 : Int32)) fun x3 =>
    if x3 ≤ a4 then
      some a3
    else
      Option.bind (fX8_has a1 a4) fun x4 =>
      Option.bind (
          if x4 = 0 then
            some (0 : Int32)
          else
            Option.bind (ald J 307 574 ((82 : Int32) + a4)) fun x5 =>
            if a2 < x5 then
              some (0 : Int32)
            else
              some ((1 : Int32) <<< (a4 &&& 31))) fun x6 =>
      fX8_takesOut_L20 a2 a1 n9 (a4 + (1 : Int32)) (a3 ||| x6) J
def fX8_takesOut_L5 (a1 : Int32) : Nat → Int32 → Mem → Option Mem
  | 0, _, _ => none
  | n9+1, a2, J =>
    Option.bind (ald J 307 574 (5 : Int32)) fun x2 =>
    if x2 ≤ a2 then
      some J
    else
      Option.bind (fX8_takesOut_L20 a2 a1 zF (0 : Int32) (0 : Int32) J) fun x7 =>
      Option.bind (fX8_of a2 (0 : Int32) J) fun x8 =>
      Option.bind (
          if (x7 &&& x8) = 0 then
            some J
          else
            Option.bind (fX8_of a2 (0 : Int32) J) fun x9 =>
            Option.bind (fX8_sets a2 (0 : Int32) (x9 &&& ((x7 &&& x8) ^^^ (-1 : Int32))) J) fun J10 =>
            Option.bind (fX8_of a2 (4 : Int32) J10) fun x11 =>
            Option.bind (fX8_sets a2 (4 : Int32) (x11 ||| (x7 &&& x8)) J10) fun J12 =>
            Option.bind (fX8_laysValues a2 J12) fun J13 =>
            Option.bind (fX8_of a2 (0 : Int32) J13) fun x14 =>
            Option.bind (fX8_tells x14 J13) fun J15 =>
            Option.bind (fX8_keepsLevel a2 J15) fun J16 =>
            Option.bind (ald J16 307 574 (8 : Int32)) fun x17 =>
            Option.bind (ast J16 307 574 (8 : Int32) (x17 + (1 : Int32))) fun J18 =>
            some J18) fun J19 =>
      fX8_takesOut_L5 a1 n9 (a2 + (1 : Int32)) J19
def fX8_takesOut (a1 : Int32) (J : Mem) : Option Mem :=
  Option.bind (fX8_firstHour J) fun x1 =>
  Option.bind (fX8_takesOut_L5 a1 zF x1 J) fun J20 =>
  some J20
def fX8_ends_L100 (a5 : Int32) (a4 : Int32) : Nat → Int32 → Mem → Option Mem
  | 0, _, _ => none
  | n9+1, a6, J =>
    if (10 : Int32) ≤ a6 then
      some J
    else
      Option.bind (ald J 307 574 (0 : Int32)) fun x21 =>
      Option.bind (
          if x21 ≤ a6 then
            some (0 : Int32)
          else
            Option.bind (ald J 315 10 a6) fun x22 =>
            some x22) fun x23 =>
      Option.bind (ast J 307 574 ((a5 + (8 : Int32)) + a6) x23) fun J24 =>
      fX8_ends_L100 a5 a4 n9 (a6 + (1 : Int32)) J24
def fX8_ends_L169 (a4 : Int32) : Nat → Int32 → Mem → Option Mem
  | 0, _, _ => none
  | n9+1, a6, J =>
    if (10 : Int32) ≤ a6 then
      some J
    else
      Option.bind (ast J 307 574 ((92 : Int32) + a6) (0 : Int32)) fun J29 =>
      Option.bind (ast J29 307 574 ((102 : Int32) + a6) (0 : Int32)) fun J30 =>
      fX8_ends_L169 a4 n9 (a6 + (1 : Int32)) J30
def fX8_ends (J : Mem) : Option (Int32 × Mem) :=
  ob2 (fX8_reporters (-1 : Int32) J) fun x1 J2 =>
  ob2 (fX8_reporters (1 : Int32) J2) fun x3 J4 =>
  ob2 (fX8_reporters (0 : Int32) J4) fun x5 J6 =>
  Option.bind (fX8_tells x5 J6) fun J7 =>
  ob2 (
      if (J7 306 20) = 0 then
        some ((0 : Int32), J7)
      else
        Option.bind (fX8_strikes x5 J7) fun J8 =>
        Option.bind (fX8_agrees x3 J8) fun J9 =>
        ob2 (fX8_dragsOff x5 J9) fun x10 J11 =>
        some (x10, J11)) fun x12 J13 =>
  ob2 (fX8_newHour J13) fun x14 J15 =>
  Option.bind (ald J15 307 574 (5 : Int32)) fun x16 =>
  Option.bind (ast J15 307 574 (5 : Int32) (x16 + (1 : Int32))) fun J17 =>
  Option.bind (ast J17 307 574 (x14 + (0 : Int32)) x5) fun J18 =>
  Option.bind (ast J18 307 574 (x14 + (3 : Int32)) x1) fun J19 =>
  Option.bind (ast J19 307 574 (x14 + (6 : Int32)) x3) fun J20 =>
  Option.bind (fX8_ends_L100 x14 x12 zF (0 : Int32) J20) fun J25 =>
  Option.bind (ald J25 307 574 (5 : Int32)) fun x26 =>
  Option.bind (fX8_keepsLevel (x26 - (1 : Int32)) J25) fun J27 =>
  Option.bind (fX8_takesOut x12 J27) fun J28 =>
  Option.bind (fX8_ends_L169 x12 zF (0 : Int32) J28) fun J31 =>
  Option.bind (fX8_bits x12) fun x32 =>
  some (x32, J31)
def fX8_inState_L4 (a1 : Int32) : Nat → Int32 → Int32 → Mem → Option Int32
  | 0, _, _, _ => none
  | n9+1, a3, a2, J =>
    Option.bind (ald J 307 574 (0 : Int32)) fun x1 =>
    if x1 ≤ a3 then
      some a2
    else
      Option.bind (ald J 307 574 ((52 : Int32) + a3)) fun x2 =>
      plet (
          if x2 = a1 then
            (1 : Int32)
          else
            (0 : Int32)) fun x3 =>
      fX8_inState_L4 a1 n9 (a3 + (1 : Int32)) (a2 + x3) J
def fX8_inState (a1 : Int32) (J : Mem) : Option Int32 :=
  Option.bind (fX8_inState_L4 a1 zF (0 : Int32) (0 : Int32) J) fun x4 =>
  some x4
def fX8_brokenSet_L4  : Nat → Int32 → Int32 → Mem → Option Int32
  | 0, _, _, _ => none
  | n9+1, a2, a1, J =>
    Option.bind (ald J 307 574 (0 : Int32)) fun x1 =>
    if x1 ≤ (a2 + (1 : Int32)) then
      some a1
    else
      Option.bind (ald J 307 574 ((132 : Int32) + a2)) fun x2 =>
      plet (
          if x2 = (1 : Int32) then
            ((1 : Int32) <<< (a2 &&& 31))
          else
            (0 : Int32)) fun x3 =>
      fX8_brokenSet_L4 n9 (a2 + (1 : Int32)) (a1 ||| x3) J
def fX8_brokenSet (J : Mem) : Option Int32 :=
  Option.bind (fX8_brokenSet_L4 zF (0 : Int32) (0 : Int32) J) fun x4 =>
  some x4
def fX8_levelled_L7  : Nat → Int32 → Int32 → Mem → Option Int32
  | 0, _, _, _ => none
  | n9+1, a2, a1, J =>
    Option.bind (ald J 307 574 (5 : Int32)) fun x2 =>
    if x2 ≤ a2 then
      some a1
    else
      Option.bind (fX8_of a2 (2 : Int32) J) fun x3 =>
      fX8_levelled_L7 n9 (a2 + (1 : Int32)) (a1 + x3) J
def fX8_levelled (J : Mem) : Option Int32 :=
  Option.bind (fX8_firstHour J) fun x1 =>
  Option.bind (fX8_levelled_L7 zF x1 (0 : Int32) J) fun x4 =>
  some x4
def fX8_size (a1 : Int32) (J : Mem) : Option (Int32 × Mem) :=
  Option.bind (fX8_within a1 (0 : Int32) (16 : Int32)) fun x1 =>
  plet (
      if x1 = 0 then
        (1 : Int32)
      else
        (0 : Int32)) fun x2 =>
  ob2 (fX8_throwsIf x2 (1 : Int32) (wr J 306 0 (0 : Int32))) fun x3 J4 =>
  if x3 = 0 then
    if a1 = (0 : Int32) then
      Option.bind (ald J4 307 574 (0 : Int32)) fun x5 =>
      some (x5, J4)
    else if a1 = (1 : Int32) then
      Option.bind (ald J4 307 574 (5 : Int32)) fun x6 =>
      some (x6, J4)
    else if a1 = (2 : Int32) then
      Option.bind (ald J4 307 574 (6 : Int32)) fun x7 =>
      some (x7, J4)
    else if a1 = (3 : Int32) then
      Option.bind (fX8_inState (0 : Int32) J4) fun x8 =>
      some (x8, J4)
    else if a1 = (4 : Int32) then
      Option.bind (fX8_inState (1 : Int32) J4) fun x9 =>
      some (x9, J4)
    else if a1 = (5 : Int32) then
      Option.bind (fX8_inState (2 : Int32) J4) fun x10 =>
      some (x10, J4)
    else if a1 = (6 : Int32) then
      Option.bind (fX8_brokenSet J4) fun x11 =>
      Option.bind (fX8_bits x11) fun x12 =>
      some (x12, J4)
    else if a1 = (7 : Int32) then
      Option.bind (ald J4 307 574 (4 : Int32)) fun x13 =>
      some (x13, J4)
    else if a1 = (8 : Int32) then
      Option.bind (ald J4 307 574 (1 : Int32)) fun x14 =>
      some (x14, J4)
    else if a1 = (9 : Int32) then
      Option.bind (ald J4 307 574 (2 : Int32)) fun x15 =>
      some (x15, J4)
    else if a1 = (10 : Int32) then
      Option.bind (ald J4 307 574 (3 : Int32)) fun x16 =>
      some (x16, J4)
    else if a1 = (11 : Int32) then
      Option.bind (ald J4 307 574 (7 : Int32)) fun x17 =>
      some (x17, J4)
    else if a1 = (12 : Int32) then
      some ((J4 306 8), J4)
    else if a1 = (13 : Int32) then
      Option.bind (fX8_levelled J4) fun x18 =>
      some (x18, J4)
    else if a1 = (14 : Int32) then
      Option.bind (ald J4 307 574 (8 : Int32)) fun x19 =>
      some (x19, J4)
    else if a1 = (15 : Int32) then
      Option.bind (ald J4 307 574 (9 : Int32)) fun x20 =>
      some (x20, J4)
    else 
      Option.bind (ald J4 307 574 (10 : Int32)) fun x21 =>
      some (x21, J4)
  else
    some ((0 : Int32), J4)
def fX8_buoy (a1 : Int32) (a2 : Int32) (J : Mem) : Option (Int32 × Mem) :=
  ob2 (fX8_noBuoy a1 (wr J 306 0 (0 : Int32))) fun x1 J2 =>
  if x1 = 0 then
    Option.bind (fX8_within a2 (0 : Int32) (9 : Int32)) fun x3 =>
    plet (
        if x3 = 0 then
          (1 : Int32)
        else
          (0 : Int32)) fun x4 =>
    ob2 (fX8_throwsIf x4 (2 : Int32) J2) fun x5 J6 =>
    if x5 = 0 then
      Option.bind (ald J6 307 574 (((12 : Int32) + ((10 : Int32) * a2)) + a1)) fun x7 =>
      some (x7, J6)
    else
      some ((0 : Int32), J6)
  else
    some ((0 : Int32), J2)
def fX8_long0 (a1 : Int32) (J : Mem) : Option Int32 :=
  Option.bind (ald J 307 574 (((12 : Int32) + a1) + (1 : Int32))) fun x1 =>
  Option.bind (ald J 307 574 ((12 : Int32) + a1)) fun x2 =>
  some (x1 - x2)
def fX8_rope (a1 : Int32) (a2 : Int32) (J : Mem) : Option (Int32 × Mem) :=
  ob2 (fX8_noRope a1 (wr J 306 0 (0 : Int32))) fun x1 J2 =>
  if x1 = 0 then
    Option.bind (fX8_within a2 (0 : Int32) (3 : Int32)) fun x3 =>
    plet (
        if x3 = 0 then
          (1 : Int32)
        else
          (0 : Int32)) fun x4 =>
    ob2 (fX8_throwsIf x4 (2 : Int32) J2) fun x5 J6 =>
    if x5 = 0 then
      Option.bind (
          if a2 = 0 then
            Option.bind (fX8_long0 a1 J6) fun x8 =>
            some x8
          else
            Option.bind (ald J6 307 574 (((112 : Int32) + ((10 : Int32) * (a2 - (1 : Int32)))) + a1)) fun x7 =>
            some x7) fun x9 =>
      some (x9, J6)
    else
      some ((0 : Int32), J6)
  else
    some ((0 : Int32), J2)
def fX8_account (a1 : Int32) (J : Mem) : Option (Int32 × Mem) :=
  Option.bind (fX8_within a1 (0 : Int32) (4 : Int32)) fun x1 =>
  plet (
      if x1 = 0 then
        (1 : Int32)
      else
        (0 : Int32)) fun x2 =>
  ob2 (fX8_throwsIf x2 (1 : Int32) (wr J 306 0 (0 : Int32))) fun x3 J4 =>
  Option.bind (
      if x3 = 0 then
        Option.bind (ald J4 313 5 a1) fun x5 =>
        some x5
      else
        some (0 : Int32)) fun x6 =>
  some (x6, J4)
def fX8_noHour (a1 : Int32) (J : Mem) : Option (Int32 × Mem) :=
  Option.bind (fX8_firstHour J) fun x1 =>
  Option.bind (ald J 307 574 (5 : Int32)) fun x2 =>
  Option.bind (fX8_within a1 x1 (x2 - (1 : Int32))) fun x3 =>
  plet (
      if x3 = 0 then
        (1 : Int32)
      else
        (0 : Int32)) fun x4 =>
  ob2 (fX8_throwsIf x4 (1 : Int32) J) fun x5 J6 =>
  Option.bind (zbo x5) fun v9 =>
  some (v9, J6)
def fX8_hour (a1 : Int32) (a2 : Int32) (J : Mem) : Option (Int32 × Mem) :=
  ob2 (fX8_noHour a1 (wr J 306 0 (0 : Int32))) fun x1 J2 =>
  if x1 = 0 then
    Option.bind (fX8_within a2 (0 : Int32) (4 : Int32)) fun x3 =>
    plet (
        if x3 = 0 then
          (1 : Int32)
        else
          (0 : Int32)) fun x4 =>
    ob2 (fX8_throwsIf x4 (2 : Int32) J2) fun x5 J6 =>
    if x5 = 0 then
      Option.bind (
          if a2 = (3 : Int32) then
            Option.bind (fX8_of a1 (3 : Int32) J6) fun x8 =>
            Option.bind (fX8_bits x8) fun x9 =>
            some x9
          else
            Option.bind (fX8_of a1 a2 J6) fun x7 =>
            some x7) fun x10 =>
      some (x10, J6)
    else
      some ((0 : Int32), J6)
  else
    some ((0 : Int32), J2)
def fX8_level (a1 : Int32) (J : Mem) : Option (Int32 × Mem) :=
  ob2 (fX8_noHour a1 (wr J 306 0 (0 : Int32))) fun x1 J2 =>
  ob2 (
      if x1 = 0 then
        Option.bind (fX8_of a1 (2 : Int32) J2) fun x3 =>
        plet (
            if x3 = 0 then
              (1 : Int32)
            else
              (0 : Int32)) fun x4 =>
        ob2 (fX8_throwsIf x4 (2 : Int32) J2) fun x5 J6 =>
        if x5 = 0 then
          Option.bind (fX8_of a1 (5 : Int32) J6) fun x7 =>
          some (x7, J6)
        else
          some ((0 : Int32), J6)
      else
        some ((0 : Int32), J2)) fun x8 J9 =>
  some (x8, J9)
def fX8_value (a1 : Int32) (a2 : Int32) (J : Mem) : Option (Int32 × Mem) :=
  ob2 (fX8_noHour a1 (wr J 306 0 (0 : Int32))) fun x1 J2 =>
  ob2 (
      if x1 = 0 then
        ob2 (fX8_noBuoy a2 J2) fun x3 J4 =>
        if x3 = 0 then
          Option.bind (fX8_of a1 (3 : Int32) J4) fun x5 =>
          Option.bind (fX8_has x5 a2) fun x6 =>
          plet (
              if x6 = 0 then
                (1 : Int32)
              else
                (0 : Int32)) fun x7 =>
          ob2 (fX8_throwsIf x7 (2 : Int32) J4) fun x8 J9 =>
          if x8 = 0 then
            Option.bind (fX8_of a1 ((8 : Int32) + a2) J9) fun x10 =>
            some (x10, J9)
          else
            some ((0 : Int32), J9)
        else
          some ((0 : Int32), J4)
      else
        some ((0 : Int32), J2)) fun x11 J12 =>
  some (x11, J12)
def fX8_why (a1 : Int32) (a2 : Int32) (J : Mem) : Option (Int32 × Mem) :=
  ob2 (fX8_noHour a1 (wr J 306 0 (0 : Int32))) fun x1 J2 =>
  if x1 = 0 then
    ob2 (fX8_noBuoy a2 J2) fun x3 J4 =>
    if x3 = 0 then
      Option.bind (fX8_of a1 (3 : Int32) J4) fun x5 =>
      Option.bind (fX8_has x5 a2) fun x6 =>
      if x6 = 0 then
        some ((1 : Int32), J4)
      else
        Option.bind (fX8_of a1 (4 : Int32) J4) fun x7 =>
        Option.bind (fX8_has x7 a2) fun x8 =>
        if x8 = 0 then
          Option.bind (fX8_of a1 (0 : Int32) J4) fun x9 =>
          Option.bind (fX8_has x9 a2) fun x10 =>
          if x10 = 0 then
            Option.bind (fX8_of a1 (6 : Int32) J4) fun x15 =>
            Option.bind (fX8_has x15 a2) fun x16 =>
            plet (
                if x16 = 0 then
                  (3 : Int32)
                else
                  (2 : Int32)) fun x17 =>
            some (x17, J4)
          else
            Option.bind (fX8_of a1 (2 : Int32) J4) fun x11 =>
            Option.bind (
                if x11 = 0 then
                  some (6 : Int32)
                else
                  Option.bind (fX8_of a1 (1 : Int32) J4) fun x12 =>
                  Option.bind (fX8_has x12 a2) fun x13 =>
                  if x13 = 0 then
                    some (4 : Int32)
                  else
                    some (0 : Int32)) fun x14 =>
            some (x14, J4)
        else
          some ((5 : Int32), J4)
    else
      some ((0 : Int32), J4)
  else
    some ((0 : Int32), J2)
def fX8_tide_L41 (a1 : Int32) : Nat → Int32 → Mem → Option Int32
  | 0, _, _ => none
  | n9+1, a2, J =>
    Option.bind (fX8_firstHour J) fun x7 =>
    if a2 < x7 then
      some a2
    else
      Option.bind (fX8_of a2 (2 : Int32) J) fun x8 =>
      if x8 = 0 then
        fX8_tide_L41 a1 n9 (a2 + (-1 : Int32)) J
      else
        some a2
def fX8_tide (a1 : Int32) (J : Mem) : Option (Int32 × Mem) :=
  ob2 (fX8_noHour a1 (wr J 306 0 (0 : Int32))) fun x1 J2 =>
  if x1 = 0 then
    Option.bind (fX8_of a1 (2 : Int32) J2) fun x3 =>
    plet (
        if x3 = 0 then
          (1 : Int32)
        else
          (0 : Int32)) fun x4 =>
    ob2 (fX8_throwsIf x4 (2 : Int32) J2) fun x5 J6 =>
    if x5 = 0 then
      Option.bind (fX8_tide_L41 a1 zF (a1 - (1 : Int32)) J6) fun x9 =>
      Option.bind (fX8_firstHour J6) fun x10 =>
      plet (
          if x10 ≤ x9 then
            (0 : Int32)
          else
            (1 : Int32)) fun x11 =>
      ob2 (fX8_throwsIf x11 (2 : Int32) J6) fun x12 J13 =>
      if x12 = 0 then
        Option.bind (fX8_of a1 (5 : Int32) J13) fun x14 =>
        Option.bind (fX8_of x9 (5 : Int32) J13) fun x15 =>
        plet (
            if (x14 - x15) ≤ 0 then
              if 0 ≤ (x14 - x15) then
                (0 : Int32)
              else
                (-1 : Int32)
            else
              (1 : Int32)) fun x16 =>
        some (x16, J13)
      else
        some ((0 : Int32), J13)
    else
      some ((0 : Int32), J6)
  else
    some ((0 : Int32), J2)
def fX8_extreme_L12 (a1 : Int32) : Nat → Int32 → Int32 → Mem → Option Int32
  | 0, _, _, _ => none
  | n9+1, a3, a2, J =>
    Option.bind (ald J 307 574 (5 : Int32)) fun x2 =>
    if x2 ≤ a3 then
      some a2
    else
      Option.bind (fX8_of a3 (2 : Int32) J) fun x3 =>
      Option.bind (
          if x3 = 0 then
            some a2
          else
            Option.bind (
                if a2 = (-1 : Int32) then
                  some (1 : Int32)
                else
                  if a1 = 0 then
                    Option.bind (fX8_of a3 (5 : Int32) J) fun x4 =>
                    Option.bind (fX8_of a2 (5 : Int32) J) fun x5 =>
                    if x4 ≤ x5 then
                      some (0 : Int32)
                    else
                      some (1 : Int32)
                  else
                    Option.bind (fX8_of a3 (5 : Int32) J) fun x6 =>
                    Option.bind (fX8_of a2 (5 : Int32) J) fun x7 =>
                    if x7 ≤ x6 then
                      some (0 : Int32)
                    else
                      some (1 : Int32)) fun x8 =>
            plet (
                if x8 = 0 then
                  a2
                else
                  a3) fun x9 =>
            some x9) fun x10 =>
      fX8_extreme_L12 a1 n9 (a3 + (1 : Int32)) x10 J
def fX8_extreme (a1 : Int32) (J : Mem) : Option (Int32 × Mem) :=
  Option.bind (fX8_firstHour (wr J 306 0 (0 : Int32))) fun x1 =>
  Option.bind (fX8_extreme_L12 a1 zF x1 (-1 : Int32) (wr J 306 0 (0 : Int32))) fun x11 =>
  some (x11, (wr J 306 0 (0 : Int32)))
def fX8_meanLevel_L12  : Nat → Int32 → Int32 → Mem → Option Int32
  | 0, _, _, _ => none
  | n9+1, a2, a1, J =>
    Option.bind (ald J 307 574 (5 : Int32)) fun x2 =>
    if x2 ≤ a2 then
      some a1
    else
      Option.bind (fX8_of a2 (2 : Int32) J) fun x3 =>
      Option.bind (
          if x3 = (1 : Int32) then
            Option.bind (fX8_of a2 (5 : Int32) J) fun x4 =>
            some x4
          else
            some (0 : Int32)) fun x5 =>
      fX8_meanLevel_L12 n9 (a2 + (1 : Int32)) (a1 + x5) J
def fX8_meanLevel (J : Mem) : Option (UInt64 × Mem) :=
  Option.bind (fX8_firstHour (wr J 306 0 (0 : Int32))) fun x1 =>
  Option.bind (fX8_meanLevel_L12 zF x1 (0 : Int32) (wr J 306 0 (0 : Int32))) fun x6 =>
  Option.bind (fX8_levelled (wr J 306 0 (0 : Int32))) fun x7 =>
  Option.bind (
      if x7 = 0 then
        some (0 : UInt64)
      else
        Option.bind (fX8_levelled (wr J 306 0 (0 : Int32))) fun x8 =>
        Option.bind (ddvn (FP.i2d x6) (FP.i2d x8)) fun x9 =>
        some x9) fun x10 =>
  some (x10, (wr J 306 0 (0 : Int32)))
def fX8_agreement (a1 : Int32) (J : Mem) : Option (UInt32 × Mem) :=
  ob2 (fX8_noHour a1 (wr J 306 0 (0 : Int32))) fun x1 J2 =>
  if x1 = 0 then
    Option.bind (fX8_of a1 (0 : Int32) J2) fun x3 =>
    Option.bind (
        if x3 = 0 then
          some (0 : UInt32)
        else
          Option.bind (fX8_of a1 (1 : Int32) J2) fun x4 =>
          Option.bind (fX8_votes x4 J2) fun x5 =>
          Option.bind (fX8_of a1 (0 : Int32) J2) fun x6 =>
          Option.bind (fX8_votes x6 J2) fun x7 =>
          Option.bind (fdvn (FP.i2f x5) (FP.i2f x7)) fun x8 =>
          some x8) fun x9 =>
    some (x9, J2)
  else
    some ((0 : UInt32), J2)
def fX8_levelNow (J : Mem) : Option (Int32 × Mem) :=
  ob2 (fX8_reporters (0 : Int32) (wr J 306 0 (0 : Int32))) fun x1 J2 =>
  Option.bind (fX8_tells x1 J2) fun J3 =>
  plet (
      if (J3 306 20) = 0 then
        (1 : Int32)
      else
        (0 : Int32)) fun x4 =>
  ob2 (fX8_throwsIf x4 (1 : Int32) J3) fun x5 J6 =>
  plet (
      if x5 = 0 then
        (J6 306 21)
      else
        (0 : Int32)) fun x7 =>
  some (x7, J6)
def fX8_levelWithout (a1 : Int32) (a2 : Int32) (J : Mem) : Option (Int32 × Mem) :=
  ob2 (fX8_noHour a1 (wr J 306 0 (0 : Int32))) fun x1 J2 =>
  if x1 = 0 then
    Option.bind (fX8_laysValues a1 J2) fun J3 =>
    Option.bind (fX8_of a1 (0 : Int32) J3) fun x4 =>
    Option.bind (fX8_tells (x4 &&& (a2 ^^^ (-1 : Int32))) J3) fun J5 =>
    plet (
        if (J5 306 20) = 0 then
          (1 : Int32)
        else
          (0 : Int32)) fun x6 =>
    ob2 (fX8_throwsIf x6 (2 : Int32) J5) fun x7 J8 =>
    plet (
        if x7 = 0 then
          (J8 306 21)
        else
          (0 : Int32)) fun x9 =>
    some (x9, J8)
  else
    some ((0 : Int32), J2)
def fX8_needed_L24 (a1 : Int32) : Nat → Int32 → Int32 → Mem → Option (Int32 × Mem)
  | 0, _, _, _ => none
  | n9+1, a3, a2, J =>
    Option.bind (ald J 307 574 (0 : Int32)) fun x4 =>
    if x4 ≤ a3 then
      some (a2, J)
    else
      Option.bind (fX8_of a1 (0 : Int32) J) fun x5 =>
      Option.bind (fX8_has x5 a3) fun x6 =>
      ob2 (
          if x6 = 0 then
            some (a2, J)
          else
            Option.bind (fX8_of a1 (0 : Int32) J) fun x7 =>
            Option.bind (fX8_tells (x7 &&& (((1 : Int32) <<< (a3 &&& 31)) ^^^ (-1 : Int32))) J) fun J8 =>
            plet (
                if (J8 306 20) = 0 then
                  ((1 : Int32) <<< (a3 &&& 31))
                else
                  (0 : Int32)) fun x9 =>
            some ((a2 ||| x9), J8)) fun x10 J11 =>
      fX8_needed_L24 a1 n9 (a3 + (1 : Int32)) x10 J11
def fX8_needed (a1 : Int32) (J : Mem) : Option (Int32 × Mem) :=
  ob2 (fX8_noHour a1 (wr J 306 0 (0 : Int32))) fun x1 J2 =>
  if x1 = 0 then
    Option.bind (fX8_laysValues a1 J2) fun J3 =>
    ob2 (fX8_needed_L24 a1 zF (0 : Int32) (0 : Int32) J3) fun x12 J13 =>
    some (x12, J13)
  else
    some ((0 : Int32), J2)
def fX8_lastOf_L2 (a2 : Int32) : Nat → Int32 → Mem → Option Int32
  | 0, _, _ => none
  | n9+1, a3, J =>
    Option.bind (ald J 307 574 (0 : Int32)) fun x1 =>
    if x1 ≤ (a3 + (1 : Int32)) then
      some a3
    else
      Option.bind (fX8_has a2 a3) fun x2 =>
      if x2 = 0 then
        fX8_lastOf_L2 a2 n9 (a3 + (1 : Int32)) J
      else
        some a3
def fX8_lastOf (a1 : Int32) (a2 : Int32) (J : Mem) : Option Int32 :=
  Option.bind (fX8_lastOf_L2 a2 zF a1 J) fun x3 =>
  some x3
def fX8_setOf (a0 : Int32) (a1 : Int32) : Option Int32 :=
  some (((1 : Int32) <<< ((a1 + (1 : Int32)) &&& 31)) - ((1 : Int32) <<< (a0 &&& 31)))
def fX8_holds_L5 (a2 : Int32) : Nat → Int32 → Int32 → Mem → Option Int32
  | 0, _, _, _ => none
  | n9+1, a4, a3, J =>
    if a2 < a4 then
      some a3
    else
      Option.bind (ald J 307 574 ((32 : Int32) + a4)) fun x1 =>
      fX8_holds_L5 a2 n9 (a4 + (1 : Int32)) (a3 + x1) J
def fX8_holds (a1 : Int32) (a2 : Int32) (J : Mem) : Option Int32 :=
  Option.bind (fX8_holds_L5 a2 zF a1 (0 : Int32) J) fun x2 =>
  some x2
def fX8_segments (J : Mem) : Option (Int32 × Mem) :=
  Option.bind (fX8_brokenSet (wr J 306 0 (0 : Int32))) fun x1 =>
  Option.bind (fX8_bits x1) fun x2 =>
  some ((x2 + (1 : Int32)), (wr J 306 0 (0 : Int32)))
def fX8_segmentOf_L17 (a1 : Int32) : Nat → Int32 → Mem → Option Int32
  | 0, _, _ => none
  | n9+1, a2, J =>
    if a2 ≤ 0 then
      some a2
    else
      Option.bind (ald J 307 574 (((132 : Int32) + a2) - (1 : Int32))) fun x3 =>
      if x3 = 0 then
        fX8_segmentOf_L17 a1 n9 (a2 + (-1 : Int32)) J
      else
        some a2
def fX8_segmentOf (a1 : Int32) (J : Mem) : Option (Int32 × Mem) :=
  ob2 (fX8_noBuoy a1 (wr J 306 0 (0 : Int32))) fun x1 J2 =>
  if x1 = 0 then
    Option.bind (fX8_segmentOf_L17 a1 zF a1 J2) fun x4 =>
    Option.bind (fX8_brokenSet J2) fun x5 =>
    Option.bind (fX8_lastOf a1 x5 J2) fun x6 =>
    Option.bind (fX8_setOf x4 x6) fun x7 =>
    some (x7, J2)
  else
    some ((0 : Int32), J2)
def fX8_weakest_L9  : Nat → Int32 → Int32 → Mem → Option Int32
  | 0, _, _, _ => none
  | n9+1, a2, a1, J =>
    Option.bind (ald J 307 574 (0 : Int32)) fun x1 =>
    if x1 ≤ (a2 + (1 : Int32)) then
      some a1
    else
      Option.bind (ald J 307 574 ((132 : Int32) + a2)) fun x2 =>
      Option.bind (
          if x2 = 0 then
            if a1 = (-1 : Int32) then
              some a2
            else
              Option.bind (ald J 307 574 ((112 : Int32) + a2)) fun x3 =>
              Option.bind (ald J 307 574 ((122 : Int32) + a2)) fun x4 =>
              Option.bind (ald J 307 574 ((112 : Int32) + a1)) fun x5 =>
              Option.bind (ald J 307 574 ((122 : Int32) + a1)) fun x6 =>
              if (x5 - x6) ≤ (x3 - x4) then
                some a1
              else
                some a2
          else
            some a1) fun x7 =>
      fX8_weakest_L9 n9 (a2 + (1 : Int32)) x7 J
def fX8_weakest (J : Mem) : Option (Int32 × Mem) :=
  Option.bind (fX8_weakest_L9 zF (0 : Int32) (-1 : Int32) (wr J 306 0 (0 : Int32))) fun x8 =>
  some (x8, (wr J 306 0 (0 : Int32)))
def fX8_breaks_L6 (a1 : Int32) (a3 : Int32) : Nat → Int32 → Int32 → Mem → Option Int32
  | 0, _, _, _ => none
  | n9+1, a5, a4, J =>
    if a3 ≤ a5 then
      some a4
    else
      Option.bind (ald J 307 574 ((132 : Int32) + a5)) fun x1 =>
      Option.bind (
          if x1 = 0 then
            Option.bind (ald J 307 574 ((122 : Int32) + a5)) fun x2 =>
            Option.bind (ald J 307 574 ((112 : Int32) + a5)) fun x3 =>
            if (x2 + a1) ≤ x3 then
              some (0 : Int32)
            else
              some ((1 : Int32) <<< (a5 &&& 31))
          else
            some (0 : Int32)) fun x4 =>
      fX8_breaks_L6 a1 a3 n9 (a5 + (1 : Int32)) (a4 ||| x4) J
def fX8_breaks (a1 : Int32) (a2 : Int32) (a3 : Int32) (J : Mem) : Option Int32 :=
  Option.bind (fX8_breaks_L6 a1 a3 zF a2 (0 : Int32) J) fun x5 =>
  some x5
def fX8_drifts_L34 (a7 : Int32) (a6 : Int32) (a5 : Int32) (a1 : Int32) (a2 : Int32) (a3 : Int32) (a4 : Int32) : Nat → Int32 → Int32 → Option Int32
  | 0, _, _ => none
  | n9+1, a9, a8 =>
    if a7 < a9 then
      some a8
    else
      Option.bind (fX8_within a9 a2 a3) fun x3 =>
      plet (
          if x3 = 0 then
            (0 : Int32)
          else
            (1 : Int32)) fun x4 =>
      fX8_drifts_L34 a7 a6 a5 a1 a2 a3 a4 n9 (a9 + (1 : Int32)) (a8 + x4)
def fX8_drifts_L6 (a1 : Int32) (a2 : Int32) (a3 : Int32) (a4 : Int32) : Nat → Int32 → Int32 → Mem → Option Int32
  | 0, _, _, _ => none
  | n9+1, a6, a5, J =>
    Option.bind (ald J 307 574 (0 : Int32)) fun x1 =>
    if x1 ≤ a6 then
      some a5
    else
      Option.bind (fX8_lastOf a6 a4 J) fun x2 =>
      Option.bind (fX8_drifts_L34 x2 a6 a5 a1 a2 a3 a4 zF a6 (0 : Int32)) fun x5 =>
      Option.bind (fX8_holds a6 x2 J) fun x6 =>
      Option.bind (
          if (a1 * x5) ≤ x6 then
            some (0 : Int32)
          else
            Option.bind (fX8_setOf a6 x2) fun x7 =>
            some x7) fun x8 =>
      fX8_drifts_L6 a1 a2 a3 a4 n9 (x2 + (1 : Int32)) (a5 ||| x8) J
def fX8_drifts (a1 : Int32) (a2 : Int32) (a3 : Int32) (a4 : Int32) (J : Mem) : Option Int32 :=
  Option.bind (fX8_drifts_L6 a1 a2 a3 a4 zF (0 : Int32) (0 : Int32) J) fun x9 =>
  some x9
def fX8_noStorm (a1 : Int32) (a2 : Int32) (a3 : Int32) (J : Mem) : Option (Int32 × Mem) :=
  ob2 (fX8_noBuoy a2 J) fun x1 J2 =>
  ob2 (
      if x1 = 0 then
        ob2 (fX8_noBuoy a3 J2) fun x3 J4 =>
        if x3 = 0 then
          Option.bind (fX8_within a1 (1 : Int32) (99 : Int32)) fun x5 =>
          plet (
              if x5 = 0 then
                (1 : Int32)
              else
                if a2 ≤ a3 then
                  (0 : Int32)
                else
                  (1 : Int32)) fun x6 =>
          ob2 (fX8_throwsIf x6 (2 : Int32) J4) fun x7 J8 =>
          if x7 = 0 then
            some ((0 : Int32), J8)
          else
            some ((1 : Int32), J8)
        else
          some ((1 : Int32), J4)
      else
        some ((1 : Int32), J2)) fun x9 J10 =>
  Option.bind (zbo x9) fun v9 =>
  some (v9, J10)
def fX8_wouldBreak (a1 : Int32) (a2 : Int32) (a3 : Int32) (J : Mem) : Option (Int32 × Mem) :=
  ob2 (fX8_noStorm a1 a2 a3 (wr J 306 0 (0 : Int32))) fun x1 J2 =>
  Option.bind (
      if x1 = 0 then
        Option.bind (fX8_breaks a1 a2 a3 J2) fun x3 =>
        some x3
      else
        some (0 : Int32)) fun x4 =>
  some (x4, J2)
def fX8_wouldDrift (a1 : Int32) (a2 : Int32) (a3 : Int32) (J : Mem) : Option (Int32 × Mem) :=
  ob2 (fX8_noStorm a1 a2 a3 (wr J 306 0 (0 : Int32))) fun x1 J2 =>
  Option.bind (
      if x1 = 0 then
        Option.bind (fX8_brokenSet J2) fun x3 =>
        Option.bind (fX8_breaks a1 a2 a3 J2) fun x4 =>
        Option.bind (fX8_drifts a1 a2 a3 (x3 ||| x4) J2) fun x5 =>
        some x5
      else
        some (0 : Int32)) fun x6 =>
  some (x6, J2)
def fX8_leastStorm_L16 (a1 : Int32) : Nat → Int32 → Mem → Option (Nat × Int32)
  | 0, _, _ => none
  | n9+1, a2, J =>
    if (100 : Int32) ≤ a2 then
      some (0, 0)
    else
      Option.bind (fX8_brokenSet J) fun x2 =>
      Option.bind (fX8_breaks a2 (0 : Int32) a1 J) fun x3 =>
      Option.bind (fX8_drifts a2 (0 : Int32) a1 (x2 ||| x3) J) fun x4 =>
      if x4 = 0 then
        fX8_leastStorm_L16 a1 n9 (a2 + (1 : Int32)) J
      else
        some (1, a2)
def fX8_leastStorm (J : Mem) : Option (Int32 × Mem) :=
  Option.bind (ald (wr J 306 0 (0 : Int32)) 307 574 (0 : Int32)) fun x1 =>
  ob2 (fX8_leastStorm_L16 (x1 - (1 : Int32)) zF (1 : Int32) (wr J 306 0 (0 : Int32))) fun t5 x6 =>
  if t5 = 1 then
    some (x6, (wr J 306 0 (0 : Int32)))
  else
    some ((-1 : Int32), (wr J 306 0 (0 : Int32)))
def fX8_lacking_L5 (a1 : Int32) (a2 : Int32) : Nat → Int32 → Int32 → Mem → Option Int32
  | 0, _, _, _ => none
  | n9+1, a4, a3, J =>
    Option.bind (ald J 307 574 (0 : Int32)) fun x1 =>
    if x1 ≤ a4 then
      some a3
    else
      Option.bind (fX8_lastOf a4 a2 J) fun x2 =>
      Option.bind (fX8_holds a4 x2 J) fun x3 =>
      fX8_lacking_L5 a1 a2 n9 (x2 + (1 : Int32)) (a3 + (imax (0 : Int32) ((a1 * ((x2 - a4) + (1 : Int32))) - x3))) J
def fX8_lacking (a1 : Int32) (a2 : Int32) (J : Mem) : Option Int32 :=
  Option.bind (fX8_lacking_L5 a1 a2 zF (0 : Int32) (0 : Int32) J) fun x4 =>
  some x4
def fX8_noForce (a1 : Int32) (J : Mem) : Option (Int32 × Mem) :=
  Option.bind (fX8_within a1 (1 : Int32) (99 : Int32)) fun x1 =>
  plet (
      if x1 = 0 then
        (1 : Int32)
      else
        (0 : Int32)) fun x2 =>
  ob2 (fX8_throwsIf x2 (1 : Int32) (wr J 306 0 (0 : Int32))) fun x3 J4 =>
  Option.bind (zbo x3) fun v9 =>
  some (v9, J4)
def fX8_lacks (a1 : Int32) (J : Mem) : Option (Int32 × Mem) :=
  ob2 (fX8_noForce a1 J) fun x1 J2 =>
  Option.bind (
      if x1 = 0 then
        Option.bind (fX8_brokenSet J2) fun x3 =>
        Option.bind (fX8_lacking a1 x3 J2) fun x4 =>
        some x4
      else
        some (0 : Int32)) fun x5 =>
  some (x5, J2)
def fX8_lengths_L4 (a1 : Int32) : Nat → Int32 → Int32 → Mem → Option Int32
  | 0, _, _, _ => none
  | n9+1, a3, a2, J =>
    if (9 : Int32) ≤ a3 then
      some a2
    else
      Option.bind (fX8_has a1 a3) fun x1 =>
      Option.bind (
          if x1 = 0 then
            some (0 : Int32)
          else
            Option.bind (fX8_long0 a3 J) fun x2 =>
            some x2) fun x3 =>
      fX8_lengths_L4 a1 n9 (a3 + (1 : Int32)) (a2 + x3) J
def fX8_lengths (a1 : Int32) (J : Mem) : Option Int32 :=
  Option.bind (fX8_lengths_L4 a1 zF (0 : Int32) (0 : Int32) J) fun x4 =>
  some x4
def fX8_planOf_L10 (a2 : Int32) (a1 : Int32) : Nat → Int32 → Int32 → Mem → Option Int32
  | 0, _, _, _ => none
  | n9+1, a4, a3, J =>
    if (512 : Int32) ≤ a4 then
      some a3
    else
      Option.bind (
          if (a4 &&& (a2 ^^^ (-1 : Int32))) = 0 then
            Option.bind (fX8_lengths a4 J) fun x2 =>
            Option.bind (ald J 307 574 (4 : Int32)) fun x3 =>
            if x3 < x2 then
              some a3
            else
              Option.bind (fX8_lacking a1 (a2 &&& (a4 ^^^ (-1 : Int32))) J) fun x4 =>
              if x4 ≤ 0 then
                Option.bind (
                    if a3 = (-1 : Int32) then
                      some (1 : Int32)
                    else
                      Option.bind (fX8_lengths a4 J) fun x5 =>
                      Option.bind (fX8_lengths a3 J) fun x6 =>
                      if x5 < x6 then
                        some (1 : Int32)
                      else
                        Option.bind (fX8_lengths a4 J) fun x7 =>
                        Option.bind (fX8_lengths a3 J) fun x8 =>
                        if x7 = x8 then
                          Option.bind (fX8_bits a4) fun x9 =>
                          Option.bind (fX8_bits a3) fun x10 =>
                          if x10 ≤ x9 then
                            some (0 : Int32)
                          else
                            some (1 : Int32)
                        else
                          some (0 : Int32)) fun x11 =>
                plet (
                    if x11 = 0 then
                      a3
                    else
                      a4) fun x12 =>
                some x12
              else
                some a3
          else
            some a3) fun x13 =>
      fX8_planOf_L10 a2 a1 n9 (a4 + (1 : Int32)) x13 J
def fX8_planOf (a1 : Int32) (J : Mem) : Option Int32 :=
  Option.bind (fX8_brokenSet J) fun x1 =>
  Option.bind (fX8_planOf_L10 x1 a1 zF (0 : Int32) (-1 : Int32) J) fun x14 =>
  some x14
def fX8_plan (a1 : Int32) (J : Mem) : Option (Int32 × Mem) :=
  ob2 (fX8_noForce a1 J) fun x1 J2 =>
  Option.bind (
      if x1 = 0 then
        Option.bind (fX8_planOf a1 J2) fun x3 =>
        some x3
      else
        some (0 : Int32)) fun x4 =>
  some (x4, J2)
def fX8_planLength (a1 : Int32) (J : Mem) : Option (Int32 × Mem) :=
  ob2 (fX8_noForce a1 J) fun x1 J2 =>
  if x1 = 0 then
    Option.bind (fX8_planOf a1 J2) fun x3 =>
    Option.bind (
        if x3 = (-1 : Int32) then
          some (-1 : Int32)
        else
          Option.bind (fX8_lengths x3 J2) fun x4 =>
          some x4) fun x5 =>
    some (x5, J2)
  else
    some ((0 : Int32), J2)
def fX8_keeps_L21  : Nat → Int32 → Mem → Option Mem
  | 0, _, _ => none
  | n9+1, a1, J =>
    if (J 306 8) ≤ a1 then
      some J
    else
      Option.bind (fX8_copies 310 310 ((574 : Int32) * (a1 + (1 : Int32))) ((574 : Int32) * a1) J) fun J1 =>
      fX8_keeps_L21 n9 (a1 + (1 : Int32)) J1
def fX8_keeps (J : Mem) : Option Mem :=
  Option.bind (
      if (J 306 8) = (8 : Int32) then
        Option.bind (fX8_keeps_L21 zF (0 : Int32) (wr J 306 8 ((J 306 8) - (1 : Int32)))) fun J2 =>
        some J2
      else
        some J) fun J3 =>
  Option.bind (fX8_copies 307 310 (0 : Int32) ((574 : Int32) * (J3 306 8)) J3) fun J4 =>
  Option.bind (ald (wr J4 306 8 ((J4 306 8) + (1 : Int32))) 313 5 (0 : Int32)) fun x5 =>
  Option.bind (ast (wr J4 306 8 ((J4 306 8) + (1 : Int32))) 313 5 (0 : Int32) (x5 + (1 : Int32))) fun J6 =>
  some J6
def fX8_refused (a1 : Int32) (J : Mem) : Option (Int32 × Mem) :=
  Option.bind (ald J 313 5 a1) fun x1 =>
  Option.bind (ast J 313 5 a1 (x1 + (1 : Int32))) fun J2 =>
  some ((-a1), J2)
def fX8_reports (a1 : Int32) (a2 : Int32) (J : Mem) : Option (Int32 × Mem) :=
  Option.bind (fX8_keeps J) fun J1 =>
  Option.bind (ast J1 307 574 ((92 : Int32) + a1) (1 : Int32)) fun J2 =>
  Option.bind (ast J2 307 574 ((102 : Int32) + a1) a2) fun J3 =>
  ob2 (fX8_reporters (-1 : Int32) J3) fun x4 J5 =>
  Option.bind (fX8_bits x4) fun x6 =>
  some (x6, J5)
def fX8_report (a1 : Int32) (a2 : Int32) (J : Mem) : Option (Int32 × Mem) :=
  ob2 (fX8_noBuoy a1 (wr J 306 0 (0 : Int32))) fun x1 J2 =>
  ob2 (
      if x1 = 0 then
        Option.bind (fX8_within a2 (-9999 : Int32) (9999 : Int32)) fun x3 =>
        plet (
            if x3 = 0 then
              (1 : Int32)
            else
              (0 : Int32)) fun x4 =>
        ob2 (fX8_throwsIf x4 (2 : Int32) J2) fun x5 J6 =>
        if x5 = 0 then
          ob2 (fX8_reports a1 a2 J6) fun x7 J8 =>
          some (x7, J8)
        else
          some ((0 : Int32), J6)
      else
        some ((0 : Int32), J2)) fun x9 J10 =>
  some (x9, J10)
def fX8_endsHour (J : Mem) : Option (Int32 × Mem) :=
  Option.bind (fX8_keeps J) fun J1 =>
  ob2 (fX8_ends J1) fun x2 J3 =>
  some (x2, J3)
def fX8_endHour (J : Mem) : Option (Int32 × Mem) :=
  ob2 (fX8_endsHour (wr J 306 0 (0 : Int32))) fun x1 J2 =>
  some (x1, J2)
def fX8_suspects (a1 : Int32) (J : Mem) : Option Mem :=
  Option.bind (ast J 307 574 ((52 : Int32) + a1) (1 : Int32)) fun J1 =>
  Option.bind (ast J1 307 574 ((62 : Int32) + a1) (0 : Int32)) fun J2 =>
  Option.bind (ast J2 307 574 ((72 : Int32) + a1) (0 : Int32)) fun J3 =>
  Option.bind (ast J3 307 574 ((82 : Int32) + a1) (-1 : Int32)) fun J4 =>
  some J4
def fX8_storms_L16 (a4 : Int32) (a1 : Int32) (a2 : Int32) (a3 : Int32) : Nat → Int32 → Mem → Option Mem
  | 0, _, _ => none
  | n9+1, a5, J =>
    if a3 ≤ a5 then
      some J
    else
      Option.bind (ald J 307 574 ((122 : Int32) + a5)) fun x3 =>
      Option.bind (ald J 307 574 ((132 : Int32) + a5)) fun x4 =>
      plet (
          if x4 = 0 then
            a1
          else
            (0 : Int32)) fun x5 =>
      Option.bind (ast J 307 574 ((122 : Int32) + a5) (x3 + x5)) fun J6 =>
      Option.bind (fX8_has a4 a5) fun x7 =>
      Option.bind (
          if x7 = 0 then
            Option.bind (ald J6 307 574 ((132 : Int32) + a5)) fun x8 =>
            some x8
          else
            some (1 : Int32)) fun x9 =>
      Option.bind (ast J6 307 574 ((132 : Int32) + a5) x9) fun J10 =>
      fX8_storms_L16 a4 a1 a2 a3 n9 (a5 + (1 : Int32)) J10
def fX8_storms_L112 (a5 : Int32) : Nat → Int32 → Mem → Option Mem
  | 0, _, _ => none
  | n9+1, a6, J =>
    Option.bind (ald J 307 574 (0 : Int32)) fun x14 =>
    if x14 ≤ a6 then
      some J
    else
      Option.bind (fX8_has a5 a6) fun x15 =>
      Option.bind (
          if x15 = 0 then
            some J
          else
            Option.bind (ald J 307 574 ((52 : Int32) + a6)) fun x16 =>
            if x16 = (2 : Int32) then
              some J
            else
              Option.bind (fX8_suspects a6 J) fun J17 =>
              some J17) fun J18 =>
      fX8_storms_L112 a5 n9 (a6 + (1 : Int32)) J18
def fX8_storms (a1 : Int32) (a2 : Int32) (a3 : Int32) (J : Mem) : Option (Int32 × Mem) :=
  Option.bind (fX8_keeps J) fun J1 =>
  Option.bind (fX8_breaks a1 a2 a3 J1) fun x2 =>
  Option.bind (fX8_storms_L16 x2 a1 a2 a3 zF a2 J1) fun J11 =>
  Option.bind (fX8_brokenSet J11) fun x12 =>
  Option.bind (fX8_drifts a1 a2 a3 x12 J11) fun x13 =>
  Option.bind (fX8_storms_L112 x13 zF (0 : Int32) J11) fun J19 =>
  Option.bind (ald J19 307 574 (7 : Int32)) fun x20 =>
  Option.bind (ast J19 307 574 (7 : Int32) (x20 + (1 : Int32))) fun J21 =>
  some (x13, J21)
def fX8_storm (a1 : Int32) (a2 : Int32) (a3 : Int32) (J : Mem) : Option (Int32 × Mem) :=
  ob2 (fX8_noStorm a1 a2 a3 (wr J 306 0 (0 : Int32))) fun x1 J2 =>
  ob2 (
      if x1 = 0 then
        ob2 (fX8_storms a1 a2 a3 J2) fun x3 J4 =>
        some (x3, J4)
      else
        some ((0 : Int32), J2)) fun x5 J6 =>
  some (x5, J6)
def fX8_renews (a1 : Int32) (J : Mem) : Option Mem :=
  Option.bind (ald J 307 574 (4 : Int32)) fun x1 =>
  Option.bind (fX8_long0 a1 J) fun x2 =>
  Option.bind (ast J 307 574 (4 : Int32) (x1 - x2)) fun J3 =>
  Option.bind (ald J3 307 574 (10 : Int32)) fun x4 =>
  Option.bind (fX8_long0 a1 J3) fun x5 =>
  Option.bind (ast J3 307 574 (10 : Int32) (x4 + x5)) fun J6 =>
  Option.bind (ast J6 307 574 ((132 : Int32) + a1) (0 : Int32)) fun J7 =>
  Option.bind (ast J7 307 574 ((122 : Int32) + a1) (0 : Int32)) fun J8 =>
  some J8
def fX8_remakes (a1 : Int32) (J : Mem) : Option (Int32 × Mem) :=
  Option.bind (ald J 307 574 ((132 : Int32) + a1)) fun x1 =>
  if x1 = 0 then
    Option.bind (ald J 307 574 ((122 : Int32) + a1)) fun x9 =>
    if x9 = 0 then
      ob2 (fX8_refused (1 : Int32) J) fun x17 J18 =>
      some (x17, J18)
    else
      Option.bind (fX8_long0 a1 J) fun x10 =>
      Option.bind (ald J 307 574 (4 : Int32)) fun x11 =>
      if x10 ≤ x11 then
        Option.bind (fX8_keeps J) fun J12 =>
        Option.bind (fX8_renews a1 J12) fun J13 =>
        Option.bind (ald J13 307 574 (4 : Int32)) fun x14 =>
        some (x14, J13)
      else
        ob2 (fX8_refused (2 : Int32) J) fun x15 J16 =>
        some (x15, J16)
  else
    Option.bind (fX8_long0 a1 J) fun x2 =>
    Option.bind (ald J 307 574 (4 : Int32)) fun x3 =>
    if x2 ≤ x3 then
      Option.bind (fX8_keeps J) fun J4 =>
      Option.bind (fX8_renews a1 J4) fun J5 =>
      Option.bind (ald J5 307 574 (4 : Int32)) fun x6 =>
      some (x6, J5)
    else
      ob2 (fX8_refused (2 : Int32) J) fun x7 J8 =>
      some (x7, J8)
def fX8_remake (a1 : Int32) (J : Mem) : Option (Int32 × Mem) :=
  ob2 (fX8_noRope a1 (wr J 306 0 (0 : Int32))) fun x1 J2 =>
  ob2 (
      if x1 = 0 then
        ob2 (fX8_remakes a1 J2) fun x3 J4 =>
        some (x3, J4)
      else
        some ((0 : Int32), J2)) fun x5 J6 =>
  some (x5, J6)
def fX8_remakesBy_L23 (a2 : Int32) : Nat → Int32 → Mem → Option Mem
  | 0, _, _ => none
  | n9+1, a3, J =>
    if (9 : Int32) ≤ a3 then
      some J
    else
      Option.bind (fX8_has a2 a3) fun x3 =>
      Option.bind (
          if x3 = 0 then
            some J
          else
            Option.bind (fX8_renews a3 J) fun J4 =>
            some J4) fun J5 =>
      fX8_remakesBy_L23 a2 n9 (a3 + (1 : Int32)) J5
def fX8_remakesBy (a1 : Int32) (J : Mem) : Option (Int32 × Mem) :=
  Option.bind (fX8_planOf a1 J) fun x1 =>
  if x1 = (-1 : Int32) then
    ob2 (fX8_refused (3 : Int32) J) fun x8 J9 =>
    some (x8, J9)
  else
    Option.bind (fX8_keeps J) fun J2 =>
    Option.bind (fX8_remakesBy_L23 x1 zF (0 : Int32) J2) fun J6 =>
    Option.bind (fX8_bits x1) fun x7 =>
    some (x7, J6)
def fX8_remakeBy (a1 : Int32) (J : Mem) : Option (Int32 × Mem) :=
  ob2 (fX8_noForce a1 J) fun x1 J2 =>
  ob2 (
      if x1 = 0 then
        ob2 (fX8_remakesBy a1 J2) fun x3 J4 =>
        some (x3, J4)
      else
        some ((0 : Int32), J2)) fun x5 J6 =>
  some (x5, J6)
def fX8_hauls (a1 : Int32) (J : Mem) : Option (Int32 × Mem) :=
  Option.bind (ald J 307 574 ((52 : Int32) + a1)) fun x1 =>
  if x1 = (2 : Int32) then
    Option.bind (fX8_keeps J) fun J2 =>
    Option.bind (fX8_suspects a1 J2) fun J3 =>
    Option.bind (fX8_inState (2 : Int32) J3) fun x4 =>
    some (x4, J3)
  else
    ob2 (fX8_refused (1 : Int32) J) fun x5 J6 =>
    some (x5, J6)
def fX8_haul (a1 : Int32) (J : Mem) : Option (Int32 × Mem) :=
  ob2 (fX8_noBuoy a1 (wr J 306 0 (0 : Int32))) fun x1 J2 =>
  ob2 (
      if x1 = 0 then
        ob2 (fX8_hauls a1 J2) fun x3 J4 =>
        some (x3, J4)
      else
        some ((0 : Int32), J2)) fun x5 J6 =>
  some (x5, J6)
def fX8_stocks (a1 : Int32) (J : Mem) : Option (Int32 × Mem) :=
  Option.bind (ald J 307 574 (4 : Int32)) fun x1 =>
  if (x1 + a1) ≤ (99999 : Int32) then
    Option.bind (fX8_keeps J) fun J2 =>
    Option.bind (ald J2 307 574 (4 : Int32)) fun x3 =>
    Option.bind (ast J2 307 574 (4 : Int32) (x3 + a1)) fun J4 =>
    Option.bind (ald J4 307 574 (9 : Int32)) fun x5 =>
    Option.bind (ast J4 307 574 (9 : Int32) (x5 + a1)) fun J6 =>
    Option.bind (ald J6 307 574 (4 : Int32)) fun x7 =>
    some (x7, J6)
  else
    ob2 (fX8_refused (4 : Int32) J) fun x8 J9 =>
    some (x8, J9)
def fX8_addStock (a1 : Int32) (J : Mem) : Option (Int32 × Mem) :=
  Option.bind (fX8_within a1 (1 : Int32) (9999 : Int32)) fun x1 =>
  plet (
      if x1 = 0 then
        (1 : Int32)
      else
        (0 : Int32)) fun x2 =>
  ob2 (fX8_throwsIf x2 (1 : Int32) (wr J 306 0 (0 : Int32))) fun x3 J4 =>
  ob2 (
      if x3 = 0 then
        ob2 (fX8_stocks a1 J4) fun x5 J6 =>
        some (x5, J6)
      else
        some ((0 : Int32), J4)) fun x7 J8 =>
  some (x7, J8)
def fX8_replaces (a1 : Int32) (a2 : Int32) (J : Mem) : Option (Int32 × Mem) :=
  Option.bind (fX8_keeps J) fun J1 =>
  Option.bind (ald J1 307 574 a1) fun x2 =>
  Option.bind (ast J1 307 574 a1 a2) fun J3 =>
  some (x2, J3)
def fX8_setOffset (a1 : Int32) (a2 : Int32) (J : Mem) : Option (Int32 × Mem) :=
  ob2 (fX8_noBuoy a1 (wr J 306 0 (0 : Int32))) fun x1 J2 =>
  ob2 (
      if x1 = 0 then
        Option.bind (fX8_within a2 (-99 : Int32) (99 : Int32)) fun x3 =>
        plet (
            if x3 = 0 then
              (1 : Int32)
            else
              (0 : Int32)) fun x4 =>
        ob2 (fX8_throwsIf x4 (2 : Int32) J2) fun x5 J6 =>
        if x5 = 0 then
          ob2 (fX8_replaces ((42 : Int32) + a1) a2 J6) fun x7 J8 =>
          some ((x7 + (99 : Int32)), J8)
        else
          some ((0 : Int32), J6)
      else
        some ((0 : Int32), J2)) fun x9 J10 =>
  some (x9, J10)
def fX8_setHold (a1 : Int32) (a2 : Int32) (J : Mem) : Option (Int32 × Mem) :=
  ob2 (fX8_noBuoy a1 (wr J 306 0 (0 : Int32))) fun x1 J2 =>
  ob2 (
      if x1 = 0 then
        Option.bind (fX8_within a2 (0 : Int32) (99 : Int32)) fun x3 =>
        plet (
            if x3 = 0 then
              (1 : Int32)
            else
              (0 : Int32)) fun x4 =>
        ob2 (fX8_throwsIf x4 (2 : Int32) J2) fun x5 J6 =>
        if x5 = 0 then
          ob2 (fX8_replaces ((32 : Int32) + a1) a2 J6) fun x7 J8 =>
          some (x7, J8)
        else
          some ((0 : Int32), J6)
      else
        some ((0 : Int32), J2)) fun x9 J10 =>
  some (x9, J10)
def fX8_setTerms (a1 : Int32) (a2 : Int32) (a3 : Int32) (J : Mem) : Option (Int32 × Mem) :=
  Option.bind (fX8_within a1 (0 : Int32) (999 : Int32)) fun x1 =>
  Option.bind (
      if x1 = 0 then
        some (1 : Int32)
      else
        Option.bind (fX8_within a2 (1 : Int32) (9 : Int32)) fun x2 =>
        if x2 = 0 then
          some (1 : Int32)
        else
          Option.bind (fX8_within a3 (1 : Int32) (9 : Int32)) fun x3 =>
          if x3 = 0 then
            some (1 : Int32)
          else
            some (0 : Int32)) fun x4 =>
  ob2 (fX8_throwsIf x4 (1 : Int32) (wr J 306 0 (0 : Int32))) fun x5 J6 =>
  if x5 = 0 then
    ob2 (fX8_replaces (1 : Int32) a1 J6) fun x7 J8 =>
    Option.bind (ast J8 307 574 (2 : Int32) a2) fun J9 =>
    Option.bind (ast J9 307 574 (3 : Int32) a3) fun J10 =>
    some (x7, J10)
  else
    some ((0 : Int32), J6)
def fX8_emits (a1 : Int32) (J : Mem) : Option Mem :=
  Option.bind (ast J 316 600 (J 306 23) a1) fun J1 =>
  some (wr J1 306 23 ((J1 306 23) + (1 : Int32)))
def fX8_takesCode (a1 : Int32) (a2 : Int32) (J : Mem) : Option (Int32 × Mem) :=
  ob2 (fX8_takes a1 a2 J) fun x1 J2 =>
  if x1 = 0 then
    Option.bind (zbo (0 : Int32)) fun v9 =>
    some (v9, J2)
  else
    Option.bind (fX8_emits (J2 306 17) J2) fun J3 =>
    Option.bind (zbo (1 : Int32)) fun v9 =>
    some (v9, J3)
def fX8_takesBuoy (J : Mem) : Option (Int32 × Mem) :=
  Option.bind (ald J 307 574 (0 : Int32)) fun x1 =>
  ob2 (fX8_takesCode (0 : Int32) (x1 - (1 : Int32)) J) fun x2 J3 =>
  Option.bind (zbo x2) fun v9 =>
  some (v9, J3)
def fX8_readHour_L12 (a1 : Int32) : Nat → Int32 → Mem → Option (Nat × Int32 × Mem)
  | 0, _, _ => none
  | n9+1, a2, J =>
    if (J 306 13) = (2 : Int32) then
      Option.bind (ald J 307 574 (0 : Int32)) fun x2 =>
      ob2 (fX8_stands (0 : Int32) (x2 - (1 : Int32)) J) fun x3 J4 =>
      if x3 = 0 then
        some (1, (0 : Int32), J4)
      else
        Option.bind (fX8_has a2 (J4 306 17)) fun x5 =>
        if x5 = 0 then
          Option.bind (fX8_emits (J4 306 17) J4) fun J6 =>
          Option.bind (fX8_advance J6) fun J7 =>
          ob2 (fX8_takesSigned (9999 : Int32) J7) fun x8 J9 =>
          if x8 = 0 then
            some (1, (0 : Int32), J9)
          else
            Option.bind (fX8_emits (J9 306 17) J9) fun J10 =>
            Option.bind (ald J10 316 600 a1) fun x11 =>
            Option.bind (ast J10 316 600 a1 (x11 + (1 : Int32))) fun J12 =>
            fX8_readHour_L12 a1 n9 (a2 ||| ((1 : Int32) <<< ((J4 306 17) &&& 31))) J12
        else
          ob2 (fX8_fails (3 : Int32) J4) fun x13 J14 =>
          some (1, x13, J14)
    else
      some (0, 0, J)
def fX8_readHour (J : Mem) : Option (Int32 × Mem) :=
  Option.bind (fX8_emits (0 : Int32) J) fun J1 =>
  ob3 (fX8_readHour_L12 (J 306 23) zF (0 : Int32) J1) fun t15 x16 J17 =>
  if t15 = 1 then
    Option.bind (zbo x16) fun v9 =>
    some (v9, J17)
  else
    Option.bind (zbo (1 : Int32)) fun v9 =>
    some (v9, J17)
def fX8_readStorm (J : Mem) : Option (Int32 × Mem) :=
  ob2 (fX8_takesCode (1 : Int32) (99 : Int32) J) fun x1 J2 =>
  if x1 = 0 then
    Option.bind (zbo (0 : Int32)) fun v9 =>
    some (v9, J2)
  else
    ob2 (fX8_takesBuoy J2) fun x3 J4 =>
    if x3 = 0 then
      Option.bind (zbo (0 : Int32)) fun v9 =>
      some (v9, J4)
    else
      Option.bind (ald J4 307 574 (0 : Int32)) fun x5 =>
      ob2 (fX8_stands (0 : Int32) (x5 - (1 : Int32)) J4) fun x6 J7 =>
      if x6 = 0 then
        Option.bind (zbo (0 : Int32)) fun v9 =>
        some (v9, J7)
      else
        if (J4 306 17) ≤ (J7 306 17) then
          Option.bind (fX8_emits (J7 306 17) J7) fun J8 =>
          Option.bind (fX8_advance J8) fun J9 =>
          Option.bind (zbo (1 : Int32)) fun v9 =>
          some (v9, J9)
        else
          ob2 (fX8_fails (3 : Int32) J7) fun x10 J11 =>
          Option.bind (zbo x10) fun v9 =>
          some (v9, J11)
def fX8_commandHere (J : Mem) : Option Int32 :=
  Option.bind (fX8_isWord 4 J) fun x1 =>
  Option.bind (
      if x1 = 0 then
        Option.bind (fX8_isWord 5 J) fun x2 =>
        if x2 = 0 then
          Option.bind (fX8_isWord 6 J) fun x3 =>
          if x3 = 0 then
            Option.bind (fX8_isWord 7 J) fun x4 =>
            if x4 = 0 then
              Option.bind (fX8_isWord 8 J) fun x5 =>
              if x5 = 0 then
                Option.bind (fX8_isWord 3 J) fun x6 =>
                if x6 = 0 then
                  some (-1 : Int32)
                else
                  some (5 : Int32)
              else
                some (4 : Int32)
            else
              some (3 : Int32)
          else
            some (2 : Int32)
        else
          some (1 : Int32)
      else
        some (0 : Int32)) fun x7 =>
  some x7
def fX8_readCommand (J : Mem) : Option (Int32 × Mem) :=
  Option.bind (fX8_commandHere J) fun x1 =>
  if x1 = (-1 : Int32) then
    ob2 (fX8_fails (1 : Int32) J) fun x19 J20 =>
    Option.bind (zbo x19) fun v9 =>
    some (v9, J20)
  else
    plet (
        if (40 : Int32) ≤ (J 306 24) then
          (0 : Int32)
        else
          (1 : Int32)) fun x2 =>
    ob2 (fX8_starts (4 : Int32) x2 J) fun x3 J4 =>
    if x3 = 0 then
      Option.bind (zbo (0 : Int32)) fun v9 =>
      some (v9, J4)
    else
      Option.bind (fX8_emits x1 (wr J4 306 24 ((J4 306 24) + (1 : Int32)))) fun J5 =>
      if x1 = (0 : Int32) then
        ob2 (fX8_readHour J5) fun x6 J7 =>
        Option.bind (zbo x6) fun v9 =>
        some (v9, J7)
      else if x1 = (1 : Int32) then
        ob2 (fX8_readStorm J5) fun x8 J9 =>
        Option.bind (zbo x8) fun v9 =>
        some (v9, J9)
      else if x1 = (2 : Int32) then
        Option.bind (ald J5 307 574 (0 : Int32)) fun x10 =>
        ob2 (fX8_takesCode (0 : Int32) (x10 - (2 : Int32)) J5) fun x11 J12 =>
        Option.bind (zbo x11) fun v9 =>
        some (v9, J12)
      else if x1 = (3 : Int32) then
        ob2 (fX8_takesCode (1 : Int32) (99 : Int32) J5) fun x13 J14 =>
        Option.bind (zbo x13) fun v9 =>
        some (v9, J14)
      else if x1 = (4 : Int32) then
        ob2 (fX8_takesBuoy J5) fun x15 J16 =>
        Option.bind (zbo x15) fun v9 =>
        some (v9, J16)
      else 
        ob2 (fX8_takesCode (1 : Int32) (9999 : Int32) J5) fun x17 J18 =>
        Option.bind (zbo x17) fun v9 =>
        some (v9, J18)
def fX8_doesHour_L2 (a1 : Int32) : Nat → Int32 → Mem → Option Mem
  | 0, _, _ => none
  | n9+1, a2, J =>
    Option.bind (ald J 316 600 a1) fun x1 =>
    if x1 ≤ a2 then
      some J
    else
      Option.bind (ald J 316 600 ((a1 + (1 : Int32)) + ((2 : Int32) * a2))) fun x2 =>
      Option.bind (ald J 316 600 ((a1 + (2 : Int32)) + ((2 : Int32) * a2))) fun x3 =>
      ob2 (fX8_reports x2 x3 J) fun x4 J5 =>
      fX8_doesHour_L2 a1 n9 (a2 + (1 : Int32)) J5
def fX8_doesHour (a1 : Int32) (J : Mem) : Option (Int32 × Mem) :=
  Option.bind (fX8_doesHour_L2 a1 zF (0 : Int32) J) fun J6 =>
  ob2 (fX8_endsHour J6) fun x7 J8 =>
  some (x7, J8)
def fX8_does (a1 : Int32) (J : Mem) : Option (Int32 × Mem) :=
  Option.bind (ald J 316 600 (a1 + (1 : Int32))) fun x1 =>
  Option.bind (ald J 316 600 a1) fun x2 =>
  if x2 = (0 : Int32) then
    ob2 (fX8_doesHour (a1 + (1 : Int32)) J) fun x3 J4 =>
    some (x3, J4)
  else if x2 = (1 : Int32) then
    Option.bind (ald J 316 600 (a1 + (2 : Int32))) fun x5 =>
    Option.bind (ald J 316 600 (a1 + (3 : Int32))) fun x6 =>
    ob2 (fX8_storms x1 x5 x6 J) fun x7 J8 =>
    some (x7, J8)
  else if x2 = (2 : Int32) then
    ob2 (fX8_remakes x1 J) fun x9 J10 =>
    some (x9, J10)
  else if x2 = (3 : Int32) then
    ob2 (fX8_remakesBy x1 J) fun x11 J12 =>
    some (x11, J12)
  else if x2 = (4 : Int32) then
    ob2 (fX8_hauls x1 J) fun x13 J14 =>
    some (x13, J14)
  else 
    ob2 (fX8_stocks x1 J) fun x15 J16 =>
    some (x15, J16)
def fX8_codesOf (a1 : Int32) (J : Mem) : Option Int32 :=
  Option.bind (ald J 316 600 a1) fun x1 =>
  Option.bind (
      if x1 = 0 then
        Option.bind (ald J 316 600 (a1 + (1 : Int32))) fun x3 =>
        some ((2 : Int32) + ((2 : Int32) * x3))
      else
        Option.bind (ald J 316 600 a1) fun x2 =>
        if x2 = (1 : Int32) then
          some (4 : Int32)
        else
          some (2 : Int32)) fun x4 =>
  some x4
def fX8_play_L21  : Nat → Int32 → Mem → Option (Int32 × Mem)
  | 0, _, _ => none
  | n9+1, a1, J =>
    if a1 = 0 then
      some (a1, J)
    else
      if (J 306 13) = 0 then
        some (a1, J)
      else
        ob2 (fX8_readCommand J) fun x2 J3 =>
        ob2 (
            if x2 = 0 then
              some ((0 : Int32), J3)
            else
              ob2 (fX8_stop J3) fun x4 J5 =>
              if x4 = 0 then
                some ((0 : Int32), J5)
              else
                some ((1 : Int32), J5)) fun x6 J7 =>
        fX8_play_L21 n9 x6 J7
def fX8_play_L70  : Nat → Int32 → Int32 → Mem → Option (Int32 × Mem)
  | 0, _, _, _ => none
  | n9+1, a3, a2, J =>
    if (J 306 24) ≤ a2 then
      some (a2, J)
    else
      ob2 (fX8_does a3 J) fun x10 J11 =>
      if x10 < 0 then
        some (a2, J11)
      else
        Option.bind (fX8_codesOf a3 J11) fun x12 =>
        fX8_play_L70 n9 (a3 + x12) (a2 + (1 : Int32)) J11
def fX8_play (J : Mem) : Option (Int32 × Mem) :=
  Option.bind (fX8_begins (wr J 306 0 (0 : Int32))) fun J1 =>
  ob2 (fX8_play_L21 zF (1 : Int32) (wr (wr J1 306 23 (0 : Int32)) 306 24 (0 : Int32))) fun x8 J9 =>
  if x8 = 0 then
    some ((-1 : Int32), (wr J9 306 10 (0 : Int32)))
  else
    ob2 (fX8_play_L70 zF (0 : Int32) (0 : Int32) (wr J9 306 10 (0 : Int32))) fun x13 J14 =>
    some (x13, J14)
def fX8_writes (a1 : Int32) (J : Mem) : Option Mem :=
  Option.bind (ast J 317 400 (J 306 26) a1) fun J1 =>
  some (wr J1 306 26 ((J1 306 26) + (1 : Int32)))
def fX8_writesNumber_L23 (a2 : Int32) : Nat → Int32 → Option Int32
  | 0, _ => none
  | n9+1, a3 =>
    Option.bind (dvi a2 a3) fun x4 =>
    if x4 ≤ (9 : Int32) then
      some a3
    else
      fX8_writesNumber_L23 a2 n9 (a3 * (10 : Int32))
def fX8_writesNumber_L39 (a2 : Int32) : Nat → Int32 → Mem → Option Mem
  | 0, _, _ => none
  | n9+1, a3, J =>
    if a3 ≤ 0 then
      some J
    else
      Option.bind (dvi a2 a3) fun x6 =>
      Option.bind (rmi x6 (10 : Int32)) fun x7 =>
      Option.bind (fX8_writes ((48 : Int32) + x7) J) fun J8 =>
      Option.bind (dvi a3 (10 : Int32)) fun x9 =>
      fX8_writesNumber_L39 a2 n9 x9 J8
def fX8_writesNumber (a1 : Int32) (J : Mem) : Option Mem :=
  Option.bind (
      if 0 ≤ a1 then
        some J
      else
        Option.bind (fX8_writes (45 : Int32) J) fun J1 =>
        some J1) fun J2 =>
  plet (
      if 0 ≤ a1 then
        a1
      else
        (-a1)) fun x3 =>
  Option.bind (fX8_writesNumber_L23 x3 zF (1 : Int32)) fun x5 =>
  Option.bind (fX8_writesNumber_L39 x3 zF x5 J2) fun J10 =>
  some J10
def fX8_writeString_L12  : Nat → Int32 → Mem → Option Mem
  | 0, _, _ => none
  | n9+1, a1, J =>
    Option.bind (ald J 307 574 (0 : Int32)) fun x1 =>
    if x1 ≤ a1 then
      some J
    else
      Option.bind (fX8_writesNumber a1 J) fun J2 =>
      Option.bind (ald J2 307 574 ((52 : Int32) + a1)) fun x3 =>
      Option.bind (
          if x3 = 0 then
            some (84 : Int32)
          else
            Option.bind (ald J2 307 574 ((52 : Int32) + a1)) fun x4 =>
            if x4 = (1 : Int32) then
              some (83 : Int32)
            else
              some (68 : Int32)) fun x5 =>
      Option.bind (fX8_writes x5 J2) fun J6 =>
      Option.bind (ald J6 307 574 (0 : Int32)) fun x7 =>
      Option.bind (
          if x7 ≤ (a1 + (1 : Int32)) then
            some J6
          else
            Option.bind (ald J6 307 574 ((132 : Int32) + a1)) fun x8 =>
            plet (
                if x8 = 0 then
                  (45 : Int32)
                else
                  (32 : Int32)) fun x9 =>
            Option.bind (fX8_writes x9 J6) fun J10 =>
            some J10) fun J11 =>
      fX8_writeString_L12 n9 (a1 + (1 : Int32)) J11
def fX8_writeString (J : Mem) : Option (Int32 × Mem) :=
  Option.bind (fX8_writeString_L12 zF (0 : Int32) (wr (wr J 306 0 (0 : Int32)) 306 26 (0 : Int32))) fun J12 =>
  some ((J12 306 26), J12)
def fX8_writeHours_L15  : Nat → Int32 → Mem → Option Mem
  | 0, _, _ => none
  | n9+1, a1, J =>
    Option.bind (ald J 307 574 (5 : Int32)) fun x2 =>
    if x2 ≤ a1 then
      some J
    else
      Option.bind (fX8_firstHour J) fun x3 =>
      Option.bind (
          if a1 ≤ x3 then
            some J
          else
            Option.bind (fX8_writes (32 : Int32) J) fun J4 =>
            some J4) fun J5 =>
      Option.bind (fX8_writesNumber a1 J5) fun J6 =>
      Option.bind (fX8_of a1 (2 : Int32) J6) fun x7 =>
      Option.bind (
          if x7 = 0 then
            Option.bind (fX8_writes (63 : Int32) J6) fun J11 =>
            some J11
          else
            Option.bind (fX8_writes (61 : Int32) J6) fun J8 =>
            Option.bind (fX8_of a1 (5 : Int32) J8) fun x9 =>
            Option.bind (fX8_writesNumber x9 J8) fun J10 =>
            some J10) fun J12 =>
      fX8_writeHours_L15 n9 (a1 + (1 : Int32)) J12
def fX8_writeHours (J : Mem) : Option (Int32 × Mem) :=
  Option.bind (fX8_firstHour (wr (wr J 306 0 (0 : Int32)) 306 26 (0 : Int32))) fun x1 =>
  Option.bind (fX8_writeHours_L15 zF x1 (wr (wr J 306 0 (0 : Int32)) 306 26 (0 : Int32))) fun J13 =>
  some ((J13 306 26), J13)
def fX8_output (a1 : Int32) (J : Mem) : Option (Int32 × Mem) :=
  Option.bind (fX8_within a1 (0 : Int32) (((wr J 306 0 (0 : Int32)) 306 26) - (1 : Int32))) fun x1 =>
  plet (
      if x1 = 0 then
        (1 : Int32)
      else
        (0 : Int32)) fun x2 =>
  ob2 (fX8_throwsIf x2 (1 : Int32) (wr J 306 0 (0 : Int32))) fun x3 J4 =>
  Option.bind (
      if x3 = 0 then
        Option.bind (ald J4 317 400 a1) fun x5 =>
        some x5
      else
        some (0 : Int32)) fun x6 =>
  some (x6, J4)
def fX8_undo (J : Mem) : Option (Int32 × Mem) :=
  plet (
      if ((wr J 306 0 (0 : Int32)) 306 8) = 0 then
        (1 : Int32)
      else
        (0 : Int32)) fun x1 =>
  ob2 (fX8_throwsIf x1 (1 : Int32) (wr J 306 0 (0 : Int32))) fun x2 J3 =>
  if x2 = 0 then
    Option.bind (fX8_copies 310 307 ((574 : Int32) * ((wr J3 306 8 ((J3 306 8) - (1 : Int32))) 306 8)) (0 : Int32) (wr J3 306 8 ((J3 306 8) - (1 : Int32)))) fun J4 =>
    some ((J4 306 8), J4)
  else
    some ((0 : Int32), J3)
def fX8_noSlot (a1 : Int32) (J : Mem) : Option (Int32 × Mem) :=
  Option.bind (fX8_within a1 (0 : Int32) (1 : Int32)) fun x1 =>
  plet (
      if x1 = 0 then
        (1 : Int32)
      else
        (0 : Int32)) fun x2 =>
  ob2 (fX8_throwsIf x2 (1 : Int32) (wr J 306 0 (0 : Int32))) fun x3 J4 =>
  Option.bind (zbo x3) fun v9 =>
  some (v9, J4)
def fX8_save (a1 : Int32) (J : Mem) : Option (Int32 × Mem) :=
  ob2 (fX8_noSlot a1 J) fun x1 J2 =>
  if x1 = 0 then
    Option.bind (fX8_copies 307 311 (0 : Int32) ((574 : Int32) * a1) J2) fun J3 =>
    Option.bind (ast J3 312 2 a1 (1 : Int32)) fun J4 =>
    Option.bind (ald J4 307 574 (5 : Int32)) fun x5 =>
    some (x5, J4)
  else
    some ((0 : Int32), J2)
def fX8_restore (a1 : Int32) (J : Mem) : Option (Int32 × Mem) :=
  ob2 (fX8_noSlot a1 J) fun x1 J2 =>
  if x1 = 0 then
    Option.bind (ald J2 312 2 a1) fun x3 =>
    plet (
        if x3 = 0 then
          (1 : Int32)
        else
          (0 : Int32)) fun x4 =>
    ob2 (fX8_throwsIf x4 (2 : Int32) J2) fun x5 J6 =>
    if x5 = 0 then
      Option.bind (fX8_copies 311 307 ((574 : Int32) * a1) (0 : Int32) J6) fun J7 =>
      Option.bind (ald (wr J7 306 8 (0 : Int32)) 307 574 (0 : Int32)) fun x8 =>
      some (x8, (wr J7 306 8 (0 : Int32)))
    else
      some ((0 : Int32), J6)
  else
    some ((0 : Int32), J2)
