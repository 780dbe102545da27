/-! THE TOKENS OF A TEXT -/
def kbt (t : Nat) : Nat := if 97 ≤ t ∧ t ≤ 122 then 6 else if 48 ≤ t ∧ t ≤ 57 then 1 else if t = 32 ∨ t = 10 then 5 else if t = 45 then 2 else if t = 59 then 3 else 4
section LX
variable (T : Nat → Nat) (L : Nat)
def kb (p : Nat) : Nat := if p < L then kbt (T p) else 5
/-- behind the run of bytes of one kind -/
def ru (c p : Nat) : Nat := if p < L ∧ kb T L p = c then ru c (p + 1) else p
termination_by L - p
decreasing_by omega
/-- behind the token that begins here -/
def en (p : Nat) : Nat := if p < L then (if kb T L p = 6 ∨ kb T L p = 1 then ru T L (kb T L p) p else p + 1) else p
/-- where the tokens begin; L behind the last one -/
def sg : Nat → Nat
  | 0 => ru T L 5 0
  | i + 1 => ru T L 5 (en T L (sg i))
def wl (w : Nat) : Nat := zb_len.getD w 0
def wc (w i : Nat) : Int32 := (zb_byt.getD w []).getD i 0
def isW (w p : Nat) : Bool := decide (p + wl w ≤ L ∧ kb T L (p + wl w) ≠ 6 ∧ ∀ i, i < wl w → nI (T (p + i)) = wc w i)
def wd (p : Nat) : Nat := if isW T L 0 p then 7 else if isW T L 1 p then 8 else if isW T L 2 p then 9 else if isW T L 3 p then 10 else if isW T L 4 p then 11 else if isW T L 5 p then 12 else if isW T L 6 p then 13 else if isW T L 7 p then 14 else if isW T L 8 p then 15 else 4
/-- the kind of the token that begins here -/
def kd (p : Nat) : Nat := if p < L then (if kb T L p = 6 then wd T L p else kb T L p) else 0
/-- the same as the reference tells it -/
def tk (p : Nat) : Nat := if p < L then (if kb T L p = 6 then 1 else if kb T L p = 1 then 2 else if kb T L p = 3 then 4 else if kb T L p = 2 then 3 else 5) else 0
/-- the number from s on, d bytes long: of the class, of the reference -/
def nm (s d : Nat) : Nat := itr (fun q v => min 1000000 (v * 10 + (T q - 48))) s d 0
def vl (s d : Nat) : Nat := itr (fun q v => if v ≤ 999999 then 10 * v + (T q - 48) else v) s d 0
end LX
section LY
variable {T : Nat → Nat} {L : Nat}
theorem kbt_6 (t : Nat) : kbt t ≤ 6 := by
  unfold kbt
  repeat' split
  all_goals omega
theorem kb_6 (p : Nat) : kb T L p ≤ 6 := by
  unfold kb
  have := kbt_6 (T p)
  split <;> omega
theorem kb_0 (p : Nat) : kb T L p ≠ 0 := by
  unfold kb kbt
  repeat' split
  all_goals omega
theorem kb_hi {p : Nat} (h : L ≤ p) : kb T L p = 5 := if_neg (by omega)
theorem ru_no {c p : Nat} (h : ¬ (p < L ∧ kb T L p = c)) : ru T L c p = p := by rw [ru, if_neg h]
theorem ru_go {c p : Nat} (h : p < L ∧ kb T L p = c) : ru T L c p = ru T L c (p + 1) := by rw [ru, if_pos h]
theorem ru_ge {c : Nat} : ∀ (d p : Nat), L - p ≤ d → p ≤ ru T L c p := by
  intro d
  induction d with
  | zero => intro p h; rw [ru_no (by omega)]; omega
  | succ d ih =>
    intro p h
    by_cases hp : p < L ∧ kb T L p = c
    · rw [ru_go hp]
      have := ih (p + 1) (by omega)
      omega
    · rw [ru_no hp]; omega
theorem ru_g (c p : Nat) : p ≤ ru T L c p := ru_ge _ p (Nat.le_refl _)
theorem ru_le_ {c : Nat} : ∀ (d p : Nat), L - p ≤ d → p ≤ L → ru T L c p ≤ L := by
  intro d
  induction d with
  | zero => intro p h _; rw [ru_no (by omega)]; omega
  | succ d ih =>
    intro p h hL
    by_cases hp : p < L ∧ kb T L p = c
    · rw [ru_go hp]
      exact ih (p + 1) (by omega) (by omega)
    · rw [ru_no hp]; omega
theorem ru_l {c p : Nat} (h : p ≤ L) : ru T L c p ≤ L := ru_le_ _ p (Nat.le_refl _) h
theorem ru_at_ {c : Nat} : ∀ (d p : Nat), L - p ≤ d → ¬ (ru T L c p < L ∧ kb T L (ru T L c p) = c) := by
  intro d
  induction d with
  | zero => intro p h; rw [ru_no (by omega)]; omega
  | succ d ih =>
    intro p h
    by_cases hp : p < L ∧ kb T L p = c
    · rw [ru_go hp]
      exact ih (p + 1) (by omega)
    · rw [ru_no hp]; exact hp
theorem ru_a (c p : Nat) : ¬ (ru T L c p < L ∧ kb T L (ru T L c p) = c) := ru_at_ _ p (Nat.le_refl _)
theorem ru_in_ {c : Nat} : ∀ (d p q : Nat), L - p ≤ d → p ≤ q → q < ru T L c p → q < L ∧ kb T L q = c := by
  intro d
  induction d with
  | zero => intro p q h h1 h2; rw [ru_no (by omega)] at h2; omega
  | succ d ih =>
    intro p q h h1 h2
    by_cases hp : p < L ∧ kb T L p = c
    · by_cases hq : q = p
      · rw [hq]; exact hp
      · rw [ru_go hp] at h2
        exact ih (p + 1) q (by omega) (by omega) h2
    · rw [ru_no hp] at h2; omega
theorem ru_in {c p q : Nat} (h1 : p ≤ q) (h2 : q < ru T L c p) : q < L ∧ kb T L q = c := ru_in_ _ p q (Nat.le_refl _) h1 h2
/-- a run that is known -/
theorem ru_is {c p q : Nat} (h1 : p ≤ q) (h2 : ∀ x, p ≤ x → x < q → x < L ∧ kb T L x = c) (h3 : ¬ (q < L ∧ kb T L q = c)) : ru T L c p = q := by
  have := ru_g (T := T) (L := L) c p
  have h4 := ru_a (T := T) (L := L) c p
  rcases Nat.lt_trichotomy (ru T L c p) q with h | h | h
  · exact absurd (h2 _ (by omega) h) h4
  · exact h
  · exact absurd (ru_in h1 h) h3
theorem en_hi {p : Nat} (h : L ≤ p) : en T L p = p := if_neg (by omega)
theorem en_gt {p : Nat} (h : p < L) : p < en T L p := by
  unfold en
  rw [if_pos h]
  split
  · rw [ru_go ⟨h, rfl⟩]
    have := ru_g (T := T) (L := L) (kb T L p) (p + 1)
    omega
  · omega
theorem en_ge (p : Nat) : p ≤ en T L p := by
  by_cases h : p < L
  · exact Nat.le_of_lt (en_gt h)
  · rw [en_hi (by omega)]; omega
theorem en_le {p : Nat} (h : p ≤ L) : en T L p ≤ L := by
  unfold en
  split
  · split
    · exact ru_l h
    · omega
  · exact h
theorem sg_le : ∀ i, sg T L i ≤ L
  | 0 => ru_l (by omega)
  | i + 1 => ru_l (en_le (sg_le i))
theorem sg_s (i : Nat) : sg T L (i + 1) = ru T L 5 (en T L (sg T L i)) := rfl
theorem sg_mono (i : Nat) : sg T L i ≤ sg T L (i + 1) := by
  rw [sg_s]
  exact Nat.le_trans (en_ge _) (ru_g _ _)
theorem sg_lt {i : Nat} (h : sg T L i < L) : sg T L i < sg T L (i + 1) := by
  rw [sg_s]
  exact Nat.lt_of_lt_of_le (en_gt h) (ru_g _ _)
theorem sg_k {i : Nat} (h : sg T L i < L) : kb T L (sg T L i) ≠ 5 := by
  intro hk
  cases i with
  | zero => exact ru_a 5 0 ⟨h, hk⟩
  | succ i => exact ru_a 5 _ ⟨h, hk⟩
theorem sg_end {i : Nat} (h : sg T L i = L) : sg T L (i + 1) = L := by
  rw [sg_s, h, en_hi (by omega), ru_no (by omega)]
/-- tokens and bytes: as many at most -/
theorem sg_i : ∀ i, (∀ j, j < i → sg T L j < L) → i ≤ sg T L i
  | 0, _ => Nat.zero_le _
  | i + 1, h => by
    have := sg_i i (fun j hj => h j (by omega))
    have := sg_lt (h i (by omega))
    omega
/-- the numbers: what the class keeps is the reference's, cut -/
theorem nm_vl (T : Nat → Nat) : ∀ (d s : Nat), (∀ i, i < d → T (s + i) - 48 ≤ 9) → nm T s d = min 1000000 (vl T s d) ∧ vl T s d ≤ 9999999
  | 0, _, _ => ⟨rfl, Nat.zero_le _⟩
  | d + 1, s, h => by
    obtain ⟨h1, h2⟩ := nm_vl T d s (fun i hi => h i (by omega))
    have h3 := h d (by omega)
    unfold nm vl at *
    rw [itr_succ, itr_succ, h1]
    generalize itr (fun q v => if v ≤ 999999 then 10 * v + (T q - 48) else v) s d 0 = v at *
    split <;> omega
theorem kb_d {p : Nat} (h : kb T L p = 1) : p < L ∧ 48 ≤ T p ∧ T p ≤ 57 := by
  unfold kb kbt at h
  repeat' split at h
  all_goals omega
theorem kb_l {p : Nat} (hp : p < L) : kb T L p = 6 ↔ 97 ≤ T p ∧ T p ≤ 122 := by
  unfold kb kbt
  rw [if_pos hp]
  constructor
  · intro h
    repeat' split at h
    all_goals omega
  · intro h
    rw [if_pos h]
end LY
