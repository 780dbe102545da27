/-! THE WORLD OF THE LAW: cells one behind another from the law's first heap size on; ints by three functions (class, reference, the law's two rows) -/
abbrev vwCl : List vw_C := [(RX0, TX0, 11), (RX1, TX1, 9), (RX2, TX2, 8), (RX3, TX3, 3), (RX4, TX4, 4), (RX5, TX5, 12), (RX6, TX6, 6), (RX7, TX7, 16), (RX8, TX8, 27)]
abbrev Mem : Type := Nat → Nat → Int32
def wr (I : Mem) (k j : Nat) (v : Int32) : Mem := fun k' j' => if k' = k ∧ j' = j then v else I k' j'
abbrev zb_G : Type := va_G × (Nat → ClassId) × Nat
def zb_A (g : zb_G) : Nat → Prop := fun q => g.2.2 ≤ q
abbrev zb_ty (g : zb_G) : List (ClassId × FieldType) := [(g.2.1 0, .int), (g.2.1 1, .byte), (g.2.1 2, .boolean), (g.2.1 3, .object "BuoyString$State"), (g.2.1 4, .long), (g.2.1 5, .double)]
def zb_ws (g : zb_G) (nc : Nat) (C : Nat → va_E) : va_W := (List.range nc).map (fun k => (g.2.2 + k, C k))
theorem zb_get {g : zb_G} {nc : Nat} {C : Nat → va_E} {k : Nat} (h : k < nc) : (zb_ws g nc C)[k]? = some (g.2.2 + k, C k) := by
  simp [zb_ws, h]
theorem zb_out {g : zb_G} {nc : Nat} {C : Nat → va_E} {k : Nat} {q : Nat × va_E} (h : (zb_ws g nc C)[k]? = some q) : k < nc ∧ q = (g.2.2 + k, C k) := by
  have hk : k < nc := by
    have := (List.getElem?_eq_some_iff.mp h).1
    simpa [zb_ws] using this
  rw [zb_get hk] at h
  exact ⟨hk, (Option.some.inj h).symm⟩
theorem zb_cong {g : zb_G} {nc : Nat} {C C' : Nat → va_E} (h : ∀ k, k < nc → C k = C' k) : zb_ws g nc C = zb_ws g nc C' := by
  apply List.map_congr_left
  intro k hk
  rw [h k (List.mem_range.mp hk)]
theorem zb_set {g : zb_G} {nc : Nat} {C : Nat → va_E} {k : Nat} {e : va_E} : (zb_ws g nc C).set k (g.2.2 + k, e) = zb_ws g nc (va_up C k e) := by
  apply List.ext_getElem?
  intro j
  by_cases hj : j < nc
  · rw [zb_get hj]
    by_cases hk : j = k
    · subst hk
      rw [List.getElem?_set_self (by simpa [zb_ws] using hj), va_up_self]
    · rw [List.getElem?_set_ne (Ne.symm hk), zb_get hj, va_up_ne _ _ hk]
  · rw [List.getElem?_eq_none (by simp [zb_ws]; omega), List.getElem?_eq_none (by simp [zb_ws]; omega)]
theorem zb_push {g : zb_G} {nc : Nat} {C : Nat → va_E} {e : va_E} : zb_ws g nc C ++ [(g.2.2 + nc, e)] = zb_ws g (nc + 1) (va_up C nc e) := by
  have h1 : zb_ws g (nc + 1) (va_up C nc e) = zb_ws g nc (va_up C nc e) ++ [(g.2.2 + nc, e)] := by
    simp [zb_ws, List.range_succ, va_up_self]
  rw [h1]
  congr 1
  exact zb_cong fun k hk => (va_up_ne _ _ (by omega)).symm
theorem zb_D {g : zb_G} {nc : Nat} {C : Nat → va_E} : va_D (zb_A g) (zb_ws g nc C) := by
  refine ⟨fun i j p q hi hj h => ?_, fun k q hk => ?_⟩
  · obtain ⟨-, rfl⟩ := zb_out hi
    obtain ⟨-, rfl⟩ := zb_out hj
    simp at h
    exact h
  · obtain ⟨-, rfl⟩ := zb_out hk
    show g.2.2 ≤ g.2.2 + k
    omega
/-- the words of the tables that hold at any time -/
def zb_Wd : List Cond := lw_tbl.filter goodWord
theorem zb_in {w : Cond} (i : Nat) (h : lw_tbl[i]? = some w) (hg : goodWord w = true) : w ∈ zb_Wd := List.mem_filter.mpr ⟨List.mem_of_getElem? h, hg⟩
theorem zb_good {w : Cond} (h : w ∈ zb_Wd) : (w.onTables && w.keeps) = true ∨ ∃ ty, w = .arrayClass ty := good_of_word (List.mem_filter.mp h).2
theorem zb_goodIn {ws : List Cond} (h : ∀ w ∈ ws, w ∈ zb_Wd) : GoodIn zb_Wd ws := fun w hw => ⟨h w hw, zb_good (h w hw)⟩
theorem zb_goodC {w : Cond} (h : w ∈ zb_Wd) : ∀ x ∈ w :: zb_Wd, x ∈ zb_Wd := fun x hx => (List.mem_cons.mp hx).elim (fun e => e ▸ h) id
/-- where in an object of class ci the field j leads: so many cells on (0: it is a number) -/
def zb_off (ci j : Nat) : Nat :=
  match ci with
  | 0 => if j < 2 then 0 else j - 1
  | 1 => j + 1
  | 2 => [1,0,2,3,4,0,0,0].getD j 0
  | 3 => [0,1,2].getD j 0
  | 4 => [0,1,2,3].getD j 0
  | 5 => [1,11,14].getD j 0
  | 6 => [0,0,0,1,2,0].getD j 0
  | 7 => [1,25,49,0,0,50,0,51,52,55,56,61,0,0,65,0].getD j 0
  | _ => [0,1,2,3,4,5,6,7,0,8,0,0,0,0,0,0,0,0,9,0,0,0,10,0,0,11,0].getD j 0
def zb_nf (ci : Nat) : Nat := [11,9,8,3,4,12,6,16,27].getD ci 0
def zb_fv (B ci k : Nat) (f : Nat → Int32) (j : Nat) : Value := if zb_off ci j = 0 then .int (f j) else .ref (B + (k + zb_off ci j))
def zb_fs (B ci k : Nat) (f : Nat → Int32) : List Value := (List.range (zb_nf ci)).map (zb_fv B ci k f)
/-- kind and length of the cells of a State and what it holds -/
def zb_st (j : Nat) : Nat × Nat := [(5,12),(0,11),(10,10),(10,10),(10,10),(10,10),(10,10),(10,10),(10,10),(10,10),(10,10),(3,3),(10,10),(10,10),(1,9),(10,24),(10,24),(10,24),(10,24),(10,24),(10,24),(10,24),(10,24),(10,240)].getD j (0,0)
def zb_kd (k : Nat) : Nat × Nat :=
  if k = 0 then (7,16) else if k < 49 then zb_st ((k-1) % 24) else if k < 66 then [(11,8),(11,2),(10,5),(6,6),(10,10),(10,10),(10,10),(2,8),(10,500),(10,501),(10,501),(10,501),(4,4),(10,40),(10,41),(10,500),(10,500)].getD (k-49) (0,0)
  else if k < 306 then zb_st ((k-66) % 24) else [(8,27),(10,574),(10,574),(10,574),(10,4592),(10,1148),(13,2),(10,5),(14,500),(10,10),(10,600),(10,400),(15,1),(16,1)].getD (k-306) (0,0)
def zb_mm (I J O : Mem) (k : Nat) : Nat → Int32 := if k < 306 then I k else if k < 318 then J k else O k
def zb_ce (g : zb_G) (I J O : Mem) (k : Nat) : va_E :=
  if (zb_kd k).1 < 9 then .inr ((zb_kd k).1, zb_fs g.2.2 (zb_kd k).1 k (zb_mm I J O k))
  else if (zb_kd k).1 = 10 then .inl (g.2.1 0, (zb_kd k).2, .inl (zb_mm I J O k))
  else if (zb_kd k).1 = 11 then .inl (g.2.1 3, (zb_kd k).2, .inr (.inr (.inr (.inr (fun i => some (g.2.2 + ((if k = 49 then 66 else 258) + 24 * i)))))))
  else if (zb_kd k).1 = 13 then .inl (g.2.1 2, (zb_kd k).2, .inl (zb_mm I J O k))
  else if (zb_kd k).1 = 14 then .inl (g.2.1 1, (zb_kd k).2, .inl (zb_mm I J O k))
  else if (zb_kd k).1 = 15 then .inl (g.2.1 4, (zb_kd k).2, .inr (.inl (fun j => (zb_mm I J O k j).toInt64)))
  else .inl (g.2.1 5, (zb_kd k).2, .inr (.inr (.inr (.inl (fun j => FP.f2d (zb_mm I J O k j).toUInt32)))))
def zb_isB (b : Nat) : Prop := b = 1 ∨ b = 25 ∨ ∃ i, i < 10 ∧ b = 66 + 24 * i
theorem zb_isB1 : zb_isB 1 := Or.inl rfl
theorem zb_isB25 : zb_isB 25 := Or.inr (Or.inl rfl)
theorem zb_isBp {i : Nat} (h : i < 8) : zb_isB (66 + 24 * i) := Or.inr (Or.inr ⟨i, by omega, rfl⟩)
theorem zb_isBs {i : Nat} (h : i < 2) : zb_isB (258 + 24 * i) := Or.inr (Or.inr ⟨8 + i, by omega, by omega⟩)
/-- a cell of the class: its place, kind and length -/
def zb_IK (k t n : Nat) : Prop := k < 306 ∧ zb_kd k = (t, n)
def zb_JK (k t n : Nat) : Prop := 306 ≤ k ∧ k < 318 ∧ zb_kd k = (t, n)
theorem zb_isB_lt {b j : Nat} (hB : zb_isB b) (hj : j < 24) : b + j < 306 := by
  rcases hB with rfl | rfl | ⟨i, hi, rfl⟩ <;> omega
theorem zb_isB_kd {b j : Nat} (hB : zb_isB b) (hj : j < 24) : zb_kd (b + j) = zb_st j := by
  unfold zb_kd
  rcases hB with rfl | rfl | ⟨i, hi, rfl⟩
  · rw [if_neg (by omega), if_pos (by omega), show (1 + j - 1) % 24 = j by omega]
  · rw [if_neg (by omega), if_pos (by omega), show (25 + j - 1) % 24 = j by omega]
  · rw [if_neg (by omega), if_neg (by omega), if_neg (by omega), if_pos (by omega), show (66 + 24 * i + j - 66) % 24 = j by omega]
theorem zb_bk {b j t n : Nat} (hB : zb_isB b) (hj : j < 24) (h : zb_st j = (t, n)) : zb_IK (b + j) t n := ⟨zb_isB_lt hB hj, (zb_isB_kd hB hj).trans h⟩
theorem zb_b0 {b : Nat} (hB : zb_isB b) : zb_IK b 5 12 := zb_bk (j := 0) hB (by omega) rfl
section CE
variable {g : zb_G} {I J O : Mem} {k n : Nat}
theorem zb_mmI (h : k < 306) : zb_mm I J O k = I k := by simp [zb_mm, h]
theorem zb_mmJ (h : 306 ≤ k) (h2 : k < 318) : zb_mm I J O k = J k := by simp [zb_mm, h2, show ¬ k < 306 by omega]
theorem zb_mmO (h : 318 ≤ k) : zb_mm I J O k = O k := by simp [zb_mm, show ¬ k < 306 by omega, show ¬ k < 318 by omega]
theorem zb_ceIo {ci : Nat} (h : zb_IK k ci n) (hc : ci < 9) : zb_ce g I J O k = .inr (ci, zb_fs g.2.2 ci k (I k)) := by
  obtain ⟨h1, h2⟩ := h
  simp [zb_ce, h2, hc, zb_mmI h1]
theorem zb_ceJo {ci : Nat} (h : zb_JK k ci n) (hc : ci < 9) : zb_ce g I J O k = .inr (ci, zb_fs g.2.2 ci k (J k)) := by
  obtain ⟨h1, h3, h2⟩ := h
  simp [zb_ce, h2, hc, zb_mmJ h1 h3]
theorem zb_ceIa (h : zb_IK k 10 n) : zb_ce g I J O k = .inl (g.2.1 0, n, .inl (I k)) := by
  obtain ⟨h1, h2⟩ := h
  simp [zb_ce, h2, zb_mmI h1]
theorem zb_ceJa (h : zb_JK k 10 n) : zb_ce g I J O k = .inl (g.2.1 0, n, .inl (J k)) := by
  obtain ⟨h1, h3, h2⟩ := h
  simp [zb_ce, h2, zb_mmJ h1 h3]
theorem zb_ceJz (h : zb_JK k 13 n) : zb_ce g I J O k = .inl (g.2.1 2, n, .inl (J k)) := by
  obtain ⟨h1, h3, h2⟩ := h
  simp [zb_ce, h2, zb_mmJ h1 h3]
theorem zb_ceJb (h : zb_JK k 14 n) : zb_ce g I J O k = .inl (g.2.1 1, n, .inl (J k)) := by
  obtain ⟨h1, h3, h2⟩ := h
  simp [zb_ce, h2, zb_mmJ h1 h3]
theorem zb_ceIr (h : zb_IK k 11 n) : zb_ce g I J O k = .inl (g.2.1 3, n, .inr (.inr (.inr (.inr (fun i => some (g.2.2 + ((if k = 49 then 66 else 258) + 24 * i))))))) := by
  obtain ⟨h1, h2⟩ := h
  simp [zb_ce, h2]
theorem zb_wrk {I : Mem} {k j : Nat} {v : Int32} : wr I k j v k = upd (I k) j v := by
  funext j'
  simp [wr, upd]
theorem zb_wrn {I : Mem} {k j k' : Nat} {v : Int32} (h : k' ≠ k) : wr I k j v k' = I k' := by
  funext j'
  simp [wr, h]
theorem zb_fs_set {B ci k j : Nat} {f : Nat → Int32} {v : Int32} (h : zb_off ci j = 0) : (zb_fs B ci k f).set j (.int v) = zb_fs B ci k (upd f j v) := by
  apply List.ext_getElem?
  intro i
  simp only [zb_fs, List.getElem?_set, List.length_map, List.length_range, List.getElem?_map, List.getElem?_range]
  by_cases hi : j = i
  · subst hi
    by_cases hn : j < zb_nf ci
    · simp [hn, zb_fv, h, upd]
    · simp [hn]
  · by_cases hn : i < zb_nf ci
    · simp [hn, hi, zb_fv, upd, Ne.symm hi]
    · simp [hn, hi]
theorem zb_upIo {ci j : Nat} {v : Int32} (h : zb_IK k ci n) (hc : ci < 9) (ho : zb_off ci j = 0) (k' : Nat) : va_up (zb_ce g I J O) k (.inr (ci, (zb_fs g.2.2 ci k (I k)).set j (.int v))) k' = zb_ce g (wr I k j v) J O k' := by
  by_cases hk : k' = k
  · subst hk
    rw [va_up_self, zb_fs_set ho, zb_ceIo h hc, zb_wrk]
  · rw [va_up_ne _ _ hk]
    simp only [zb_ce, zb_mm, zb_wrn hk]
theorem zb_upJo {ci j : Nat} {v : Int32} (h : zb_JK k ci n) (hc : ci < 9) (ho : zb_off ci j = 0) (k' : Nat) : va_up (zb_ce g I J O) k (.inr (ci, (zb_fs g.2.2 ci k (J k)).set j (.int v))) k' = zb_ce g I (wr J k j v) O k' := by
  by_cases hk : k' = k
  · subst hk
    rw [va_up_self, zb_fs_set ho, zb_ceJo h hc, zb_wrk]
  · rw [va_up_ne _ _ hk]
    simp only [zb_ce, zb_mm, zb_wrn hk]
theorem zb_upIa {j : Nat} {v : Int32} (h : zb_IK k 10 n) (k' : Nat) : va_up (zb_ce g I J O) k (.inl (g.2.1 0, n, .inl (upd (I k) j v))) k' = zb_ce g (wr I k j v) J O k' := by
  by_cases hk : k' = k
  · subst hk
    rw [va_up_self, zb_ceIa h, zb_wrk]
  · rw [va_up_ne _ _ hk]
    simp only [zb_ce, zb_mm, zb_wrn hk]
theorem zb_upJa {j : Nat} {v : Int32} (h : zb_JK k 10 n) (k' : Nat) : va_up (zb_ce g I J O) k (.inl (g.2.1 0, n, .inl (upd (J k) j v))) k' = zb_ce g I (wr J k j v) O k' := by
  by_cases hk : k' = k
  · subst hk
    rw [va_up_self, zb_ceJa h, zb_wrk]
  · rw [va_up_ne _ _ hk]
    simp only [zb_ce, zb_mm, zb_wrn hk]
theorem zb_upJz {j : Nat} {v : Int32} (h : zb_JK k 13 n) (k' : Nat) : va_up (zb_ce g I J O) k (.inl (g.2.1 2, n, .inl (upd (J k) j v))) k' = zb_ce g I (wr J k j v) O k' := by
  by_cases hk : k' = k
  · subst hk
    rw [va_up_self, zb_ceJz h, zb_wrk]
  · rw [va_up_ne _ _ hk]
    simp only [zb_ce, zb_mm, zb_wrn hk]
theorem zb_upJb {j : Nat} {v : Int32} (h : zb_JK k 14 n) (k' : Nat) : va_up (zb_ce g I J O) k (.inl (g.2.1 1, n, .inl (upd (J k) j v))) k' = zb_ce g I (wr J k j v) O k' := by
  by_cases hk : k' = k
  · subst hk
    rw [va_up_self, zb_ceJb h, zb_wrk]
  · rw [va_up_ne _ _ hk]
    simp only [zb_ce, zb_mm, zb_wrn hk]
/-- a row of the class copied from another -/
def cpy (I : Mem) (k0 sp k1 dp n : Nat) : Mem := fun k j => if k = k1 ∧ dp ≤ j ∧ j < dp + n then I k0 (sp + (j - dp)) else I k j
theorem zb_upIc {k0 sp dp m : Nat} (h : zb_IK k 10 n) (k' : Nat) : va_up (zb_ce g I J O) k (.inl (g.2.1 0, n, .inl (va_cpy (I k0) (I k) sp dp m))) k' = zb_ce g (cpy I k0 sp k dp m) J O k' := by
  by_cases hk : k' = k
  · subst hk
    rw [va_up_self, zb_ceIa h]
    have e : va_cpy (I k0) (I k') sp dp m = cpy I k0 sp k' dp m k' := by
      funext j
      simp [va_cpy, cpy]
    rw [e]
  · rw [va_up_ne _ _ hk]
    have e : cpy I k0 sp k dp m k' = I k' := by
      funext j
      simp [cpy, hk]
    simp only [zb_ce, zb_mm, e]
end CE
