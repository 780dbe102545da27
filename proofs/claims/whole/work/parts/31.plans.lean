/-! WHAT LACKS, PLANS, THE WEAKEST ROPE, ONE SEGMENT -/
theorem toInt_le {a b : Int32} : (a ≤ b) = (a.toInt ≤ b.toInt) := propext Int32.le_iff_toInt_le
theorem toInt_lt' {a b : Int32} : (a < b) = (a.toInt < b.toInt) := propext Int32.lt_iff_toInt_lt
theorem toInt_0 : (0 : Int32).toInt = 0 := rfl
theorem toInt_1 : (1 : Int32).toInt = 1 := rfl
theorem hsum_bd {F : Row} {c : Nat} (hH : ∀ j, j < c → bd 0 99 (F (32 + j))) (h10 : c ≤ 10) : ∀ (d j : Nat) (a : Int32), j + d ≤ c → 0 ≤ a.toInt → a.toInt ≤ 99 * j → (hsum F j d a).toInt ≤ 99 * (j + d) ∧ 0 ≤ (hsum F j d a).toInt := by
  intro d
  induction d with
  | zero => intro j a _ h1 h2; exact ⟨by show a.toInt ≤ _; omega, h1⟩
  | succ d ih =>
    intro j a hj h1 h2
    have hb := hH j (by omega)
    unfold bd at hb
    have e := toInt_add (a := a) (b := F (32 + j)) (by omega) (by omega)
    have := ih (j + 1) (a + F (32 + j)) (by omega) (by omega) (by omega)
    show (hsum F (j + 1) d (a + F (32 + j))).toInt ≤ _ ∧ 0 ≤ (hsum F (j + 1) d (a + F (32 + j))).toInt
    omega
/-- what a run of buoys lacks: told one by one, or at once -/
theorem lack_run {F : Row} {c f : Nat} (hf : f ≤ 99) (hH : ∀ j, j < c → bd 0 99 (F (32 + j))) (h10 : c ≤ 10) : ∀ (d j : Nat) (a h : Int32) (i : Nat), j + d ≤ c → i ≤ j → 0 ≤ h.toInt → h.toInt ≤ 99 * j → a.toInt = f * i - h.toInt →
    (itr (fun b a => a + (nI f - F (32 + b))) j d a).toInt = f * (i + d) - (hsum F j d h).toInt := by
  intro d
  induction d with
  | zero => intro j a h i _ _ _ _ e; exact e
  | succ d ih =>
    intro j a h i hj hi h1 h2 e
    have hb := hH j (by omega)
    unfold bd at hb
    have tf := nI_toInt (n := f) (by omega)
    have e1 := toInt_sub (a := nI f) (b := F (32 + j)) (by omega) (by omega)
    have b1 : (f : Int) * i ≤ 99 * 10 := Int.mul_le_mul (by omega) (by omega) (by omega) (by omega)
    have b0 : (0 : Int) ≤ f * i := Int.mul_nonneg (by omega) (by omega)
    have e2 := toInt_add (a := a) (b := nI f - F (32 + j)) (by omega) (by omega)
    have e3 := toInt_add (a := h) (b := F (32 + j)) (by omega) (by omega)
    have e4 : (f : Int) * ((i + 1 : Nat) : Int) = f * i + f := by rw [Int.natCast_add]; simp [Int.mul_add]
    have := ih (j + 1) (a + (nI f - F (32 + j))) (h + F (32 + j)) (i + 1) (by omega) (by omega) (by omega) (by omega) (by omega)
    show (itr _ (j + 1) d (a + (nI f - F (32 + j)))).toInt = f * ((i : Int) + ((d + 1 : Nat) : Int)) - (hsum F (j + 1) d (h + F (32 + j))).toInt
    rw [this]
    congr 2
    omega
theorem la_run {I : Mem} {F : Row} {c t : Nat} {B fo : Int32} (I0 : I (1 + 1) 0 = nI c) (h10 : c ≤ 10) (hH : ∀ j, j < c → I (1 + 4) j = F (32 + j)) (ht : t < c) (he : t = c - 1 ∨ bt B t = true) :
    ∀ (d b n : Nat) (a4 a3 : Int32), b + d = t → (∀ x, b ≤ x → x < t → bt B x = false) → fX5_lacking_L8 1 fo B (n + d + 1) (nI b) a4 a3 I = fX5_lacking_L8 1 fo B n (nI (t + 1)) 0 (a3 + imax 0 (itr (fun b a => a + (fo - F (32 + b))) b (d + 1) a4)) I := by
  intro d
  induction d with
  | zero =>
    intro b n a4 a3 hb hx
    have hbt : b = t := by omega
    subst hbt
    have hd : (decide (b = c - 1) || bt B b) = true := by rcases he with h | h <;> simp [h]
    rw [fX5_lacking_L8, I0, if_neg (by rw [nI_leP (by omega) (by omega)]; omega), ald_n (by omega) (by omega), ob_s, ends_e (b := 1) I0 (by omega) h10 ht, ob_s, hH b ht, nI_1, hd, b2i_t, if_neg n10, pl2_mk]
    rfl
  | succ d ih =>
    intro b n a4 a3 hb hx
    have hxb := hx b (Nat.le_refl _) (by omega)
    have hd : (decide (b = c - 1) || bt B b) = false := by rw [hxb]; simp; omega
    rw [show n + (d + 1) + 1 = (n + d + 1) + 1 by omega, fX5_lacking_L8, I0, if_neg (by rw [nI_leP (by omega) (by omega)]; omega), ald_n (by omega) (by omega), ob_s, ends_e (b := 1) I0 (by omega) h10 (show b < c by omega), ob_s, hH b (by omega), nI_1, hd, b2i_f, if_pos e00, pl2_mk]
    exact ih (b + 1) n (a4 + (fo - F (32 + b))) a3 (by omega) (fun x h1 h2 => hx x (by omega) h2)
theorem la_all {I J : Mem} {F : Row} {c f : Nat} {B : Int32} (I0 : I (1 + 1) 0 = nI c) (h10 : c ≤ 10) (hf : f ≤ 99) (hH : ∀ j, j < c → I (1 + 4) j = F (32 + j)) (hB : ∀ j, j < c → bd 0 99 (F (32 + j))) (hF : J 307 = F) (K0 : J 307 0 = nI c) :
    ∀ (k b n m : Nat) (a3 : Int32), b + k = c → k < n → k < m → 0 ≤ a3.toInt → a3.toInt ≤ 990 * b → ∃ r, fX5_lacking_L8 1 (nI f) B n (nI b) 0 a3 I = some r ∧ fX8_lacking_L5 (nI f) B m (nI b) a3 J = some r ∧ 0 ≤ r.toInt := by
  intro k
  induction k using Nat.strongRecOn with
  | _ k ih =>
    intro b n m a3 hb hn hm h0 h1
    obtain ⟨m, rfl⟩ := fuel hm
    by_cases hk : k = 0
    · obtain ⟨n, rfl⟩ := fuel hn
      refine ⟨a3, ?_, ?_, h0⟩
      · rw [fX5_lacking_L8, I0, if_pos (by rw [nI_leP (by omega) (by omega)]; omega)]
      · rw [fX8_lacking_L5, ald_0 (by omega) (by omega), K0, ob_s, if_pos (by rw [nI_leP (by omega) (by omega)]; omega)]
    · obtain ⟨p1, p2, p3, p4⟩ := lst_p (c := c) (B := B) (j := b) (by omega)
      have hrun := la_run (F := F) (fo := nI f) I0 h10 hH p2 p4 (lst c B b - b) b (n - (lst c B b - b) - 1) 0 a3 (by omega) p3
      rw [show n - (lst c B b - b) - 1 + (lst c B b - b) + 1 = n by omega, show lst c B b - b + 1 = lst c B b + 1 - b by omega] at hrun
      generalize ht : lst c B b = t at *
      have hlr := lack_run hf hB h10 (t + 1 - b) b 0 0 0 (by omega) (by omega) (by rw [toInt_0]; omega) (by rw [toInt_0]; omega) (by rw [toInt_0]; omega)
      have hsb := hsum_bd hB h10 (t + 1 - b) b 0 (by omega) (by rw [toInt_0]; omega) (by rw [toInt_0]; omega)
      have tf := nI_toInt (n := f) (by omega)
      have tn := nI_toInt (n := t + 1 - b) (by omega)
      have bm : (f : Int) * ((t + 1 - b : Nat) : Int) ≤ 99 * 10 := Int.mul_le_mul (by omega) (by omega) (by omega) (by omega)
      have b0 : (0 : Int) ≤ (f : Int) * ((t + 1 - b : Nat) : Int) := Int.mul_nonneg (by omega) (by omega)
      have em : (nI f * nI (t + 1 - b)).toInt = (f : Int) * ((t + 1 - b : Nat) : Int) := by
        rw [toInt_mul (by rw [tf, tn]; omega) (by rw [tf, tn]; omega), tf, tn]
      have es : (nI f * nI (t + 1 - b) - hsum F b (t + 1 - b) 0).toInt = (f : Int) * ((t + 1 - b : Nat) : Int) - (hsum F b (t + 1 - b) 0).toInt := by
        rw [toInt_sub (by rw [em]; omega) (by rw [em]; omega), em]
      have eq : itr (fun b a => a + (nI f - F (32 + b))) b (t + 1 - b) 0 = nI f * nI (t + 1 - b) - hsum F b (t + 1 - b) 0 := by
        apply Int32.toInt_inj.mp
        rw [hlr, es]
        congr 2
        omega
      have ei : (imax 0 (nI f * nI (t + 1 - b) - hsum F b (t + 1 - b) 0)).toInt ≤ 990 ∧ 0 ≤ (imax 0 (nI f * nI (t + 1 - b) - hsum F b (t + 1 - b) 0)).toInt := by
        unfold imax
        split
        · next h => rw [toInt_lt', toInt_0] at h; omega
        · rw [toInt_0]; omega
      have ea := toInt_add (a := a3) (b := imax 0 (nI f * nI (t + 1 - b) - hsum F b (t + 1 - b) 0)) (by omega) (by omega)
      obtain ⟨r, r1, r2, r3⟩ := ih (c - (t + 1)) (by omega) (t + 1) (n - (t - b) - 1) m (a3 + imax 0 (nI f * nI (t + 1 - b) - hsum F b (t + 1 - b) 0)) (by omega) (by omega) (by omega) (by omega) (by omega)
      refine ⟨r, ?_, ?_, r3⟩
      · rw [hrun, eq]
        exact r1
      · rw [← r2, fX8_lacking_L5, ald_0 (by omega) (by omega), K0, ob_s, if_neg (by rw [nI_leP (by omega) (by omega)]; omega), lst_e K0 h10 (by omega), ht, ob_s, holds_e hF (by omega) p1, ob_s, nI_sub p1 (by omega), nI_1, nI_1, show t - b + 1 = t + 1 - b by omega]
theorem lack_e {c e f : Nat} {I J : Mem} {F : Row} (hW : EW c e I 1 F) (hF : J 307 = F) (hf : f ≤ 99) (B : Int32) : ∃ r, fX5_lacking 1 (nI f) B I = some r ∧ fX8_lacking (nI f) B J = some r ∧ 0 ≤ r.toInt := by
  have h10 := hW.c10
  obtain ⟨r, r1, r2, r3⟩ := la_all (F := F) (B := B) hW.2.1.1 h10 hf (fun j hj => (hW.2.2.1 j hj).2.2.1) (fun j hj => (hW.1.2.1 j hj).2.1) hF (by rw [hF]; exact hW.1.1.2.2.1) c 0 zF zF 0 (by omega) (zF_g (by omega)) (zF_g (by omega)) (by rw [toInt_0]; omega) (by rw [toInt_0]; omega)
  refine ⟨r, ?_, ?_, r3⟩
  · unfold fX5_lacking
    rw [show fX5_lacking_L8 1 (nI f) B zF 0 0 0 I = _ from r1]
    rfl
  · unfold fX8_lacking
    rw [show fX8_lacking_L5 (nI f) B zF 0 0 J = _ from r2]
    rfl
theorem q_26 : eqP_26 Rel := by
  intro n I J hn hR p0
  obtain ⟨c, e, ⟨h2, h10, h30, -⟩, ⟨J0, J5, J6⟩, ⟨I0, I7⟩, hW⟩ := hR.facts hn
  have K0 : (wr J 306 0 0) 307 0 = nI c := w7.trans J0
  have K7 : (wr J 306 0 0) 307 = J 307 := funext fun j => w7
  have hbr : I 12 0 = bsl (broB (J 307)) 0 (c - 1) 0 := hW.2.1.2.2.2.2.2.2.2.2.2.2.1
  unfold fX7_lacks fX8_lacks
  rcases inb (lo := 1) (hi := 100) (by omega) (by omega) p0 with ⟨j, h1, h3, rfl⟩ | ho
  · obtain ⟨r, r1, r2, -⟩ := lack_e hW K7 (f := j) (by omega) (brS c (J 307))
    refine ⟨0, r, r, wr J 306 0 0, ?_, ?_, Rel.J0 hR 0, Or.inl ⟨rfl, wr_s, rfl⟩⟩
    · rw [chkF_i h1 h3, ob_s, if_pos rfl, hbr, show bsl (broB (J 307)) 0 (c - 1) 0 = brS c (J 307) from rfl, r1]
      rfl
    · rw [noF_i h1 h3, ob2_some, if_pos rfl, brok_e K0 (by omega) h10, ob_s, K7, show bsl (broB (J 307)) 0 (c - 1) 0 = brS c (J 307) from rfl, r2]
      rfl
  · exact ⟨2, 0, 0, wr (wr J 306 0 0) 306 0 1, by rw [chkF_o ho]; rfl, by rw [noF_o ho]; rfl, wJ0 hR 1, Or.inr ⟨rfl, wr_s⟩⟩
/-! lengths -/
def dst (F : Row) (k : Nat) : Int32 := F (12 + k + 1) - F (12 + k)
def lens (c : Nat) (F : Row) (s : Int32) : Int32 := vsum (dst F) (bt s) 0 (c - 1) 0
theorem len_L {c : Nat} {I : Mem} {F : Row} {s : Int32} (I0 : I (1 + 1) 0 = nI c) (h10 : c ≤ 10) (h1 : 1 ≤ c) (hH : ∀ j, j < c → I (1 + 2) j = F (12 + j)) : ∀ (d j n : Nat) (a : Int32), j + d = c - 1 → d < n → fX5_lengthOf_L4 1 s n (nI j) a I = some (vsum (dst F) (bt s) j d a) := by
  intro d
  induction d with
  | zero =>
    intro j n a hj hn
    obtain ⟨n, rfl⟩ := fuel hn
    rw [fX5_lengthOf_L4, I0, nI_sub1 h1 (by omega), if_pos (by rw [nI_leP (by omega) (by omega)]; omega)]
    rfl
  | succ d ih =>
    intro j n a hj hn
    obtain ⟨n, rfl⟩ := fuel hn
    rw [fX5_lengthOf_L4, I0, nI_sub1 h1 (by omega), if_neg (by rw [nI_leP (by omega) (by omega)]; omega), has7 (by omega), ob_s, ite_b2i, dist_e (b := 1) I0 h10 (show j + 1 < c by omega), ob_s, ite_some, ob_s, nI_1, hH j (by omega), hH (j + 1) (by omega)]
    exact ih (j + 1) n _ (by omega) (by omega)
theorem len7 {c e : Nat} {I : Mem} {F : Row} {s : Int32} (hW : EW c e I 1 F) : fX5_lengthOf 1 s I = some (lens c F s) := by
  have h10 := hW.c10
  have h2 := hW.1.1.1
  unfold fX5_lengthOf
  rw [show fX5_lengthOf_L4 1 s zF 0 0 I = _ from len_L hW.2.1.1 h10 (by omega) (fun j hj => (hW.2.2.1 j hj).1) (c - 1) 0 zF 0 (by omega) (zF_g (by omega))]
  rfl
theorem lns_L {J : Mem} {F : Row} {s : Int32} (hF : J 307 = F) : ∀ (d j n : Nat) (a : Int32), j + d = 9 → d < n → fX8_lengths_L4 s n (nI j) a J = some (vsum (dst F) (bt s) j d a) := by
  intro d
  induction d with
  | zero =>
    intro j n a hj hn
    obtain ⟨n, rfl⟩ := fuel hn
    rw [fX8_lengths_L4, L9, if_pos (by rw [nI_leP (by omega) (by omega)]; omega)]
    rfl
  | succ d ih =>
    intro j n a hj hn
    obtain ⟨n, rfl⟩ := fuel hn
    rw [fX8_lengths_L4, L9, if_neg (by rw [nI_leP (by omega) (by omega)]; omega), has8 (by omega), ob_s, ite_b2i, long_e (by omega), ob_s, ite_some, ob_s, nI_1, hF, add_ite0]
    exact ih (j + 1) n _ (by omega) (by omega)
theorem len8 {c : Nat} {J : Mem} {F : Row} {s : Int32} (hF : J 307 = F) (h1 : 1 ≤ c) (h10 : c ≤ 10) (hs : ∀ i, c - 1 ≤ i → bt s i = false) : fX8_lengths s J = some (lens c F s) := by
  unfold fX8_lengths
  rw [show fX8_lengths_L4 s zF 0 0 J = _ from lns_L hF 9 0 zF 0 (by omega) (zF_g (by omega)), ob_s]
  congr 1
  unfold lens vsum
  rw [show 9 = (c - 1) + (9 - (c - 1)) by omega, itr_add, Nat.zero_add]
  exact itr_id _ _ _ fun i a h1 h2 => by simp [hs i h1]
theorem bt_nI {x i : Nat} : bt (nI x) i = (decide (i < 32) && x.testBit i) := by
  unfold bt
  show (BitVec.ofNat 32 x).getLsbD i = _
  rw [BitVec.getLsbD_ofNat]
theorem bt_low {x k i : Nat} (h : x < 2 ^ k) (hi : k ≤ i) : bt (nI x) i = false := by
  rw [bt_nI, Nat.testBit_lt_two_pow (Nat.lt_of_lt_of_le h (Nat.pow_le_pow_right (by omega) hi))]
  simp
theorem pow9 {c : Nat} (h10 : c ≤ 10) : 2 ^ (c - 1) ≤ 512 := Nat.pow_le_pow_right (n := 2) (by omega) (show c - 1 ≤ 9 by omega)
theorem pl_st {c e f : Nat} {I J : Mem} {F : Row} (hW : EW c e I 1 F) (hF : J 307 = F) (hf : f ≤ 99) : ∀ (d x n m : Nat) (a b : Int32), x + d = 2 ^ (c - 1) → d < n → 512 - x < m → (b = -1 ∨ ∃ y, y < 2 ^ (c - 1) ∧ b = nI y ∧ a = lens c F b) →
    ∃ r, fX5_planFor_L24 1 (nI (2 ^ (c - 1))) (nI f) n (nI x) a b I = some r ∧ fX8_planOf_L10 (brS c F) (nI f) m (nI x) b J = some r ∧ (r = -1 ∨ ∃ y, y < 2 ^ (c - 1) ∧ r = nI y) := by
  have h10 := hW.c10
  have h2 := hW.1.1.1
  have p9 := pow9 h10
  have hbr : I (1 + 11) 0 = brS c F := hW.2.1.2.2.2.2.2.2.2.2.2.2.1
  have q6 : I 1 6 = F 4 := hW.2.1.2.2.2.2.1
  have hbhi : ∀ i, c - 1 ≤ i → bt (brS c F) i = false := fun i hi => bsl_hi (by omega) hi
  intro d
  induction d with
  | zero =>
    intro x n m a b hx hn hm hb
    have tail : ∀ (d x m : Nat), x + d = 512 → d < m → 2 ^ (c - 1) ≤ x → fX8_planOf_L10 (brS c F) (nI f) m (nI x) b J = some b := by
      intro d
      induction d with
      | zero =>
        intro x m hx hm hx2
        obtain ⟨m, rfl⟩ := fuel hm
        rw [fX8_planOf_L10, if_pos (show (512 : Int32) ≤ nI x from show nI 512 ≤ nI x by rw [nI_leP (by omega) (by omega)]; omega)]
      | succ d ihd =>
        intro x m hx hm hx2
        obtain ⟨m, rfl⟩ := fuel hm
        obtain ⟨i, hi, hi2⟩ := Nat.exists_ge_and_testBit_of_ge_two_pow hx2
        have hi9 : i < 32 := by
          by_cases h : i < 32
          · exact h
          · rw [Nat.testBit_lt_two_pow (Nat.lt_of_lt_of_le (show x < 2 ^ 9 by omega) (Nat.pow_le_pow_right (by omega) (by omega)))] at hi2
            cases hi2
        have hne : ¬ (nI x &&& (brS c F ^^^ (-1))) = 0 := by
          intro h
          have hbb := (b_z0.mp h) i hi9
          rw [b_and, b_not hi9, hbhi i (by omega), bt_nI, hi2] at hbb
          simp at hbb
          omega
        rw [fX8_planOf_L10, if_neg (show ¬ (512 : Int32) ≤ nI x from show ¬ nI 512 ≤ nI x by rw [nI_leP (by omega) (by omega)]; omega), if_neg hne, ob_s, nI_1]
        exact ihd (x + 1) m (by omega) (by omega) (by omega)
    obtain ⟨n, rfl⟩ := fuel hn
    refine ⟨b, ?_, tail (512 - x) x m (by omega) hm (by omega), hb.imp id (fun ⟨y, h1, h2, _⟩ => ⟨y, h1, h2⟩)⟩
    rw [fX5_planFor_L24, if_pos (by rw [nI_leP (by omega) (by omega)]; omega)]
  | succ d ih =>
    intro x n m a b hx hn hm hb
    obtain ⟨n, rfl⟩ := fuel hn
    obtain ⟨m, rfl⟩ := fuel hm
    have hxl : ∀ i, c - 1 ≤ i → bt (nI x) i = false := fun i hi => bt_low (k := c - 1) (by omega) hi
    have skip := ih (x + 1) n m a b (by omega) (by omega) (by omega) hb
    have take : ∃ r, fX5_planFor_L24 1 (nI (2 ^ (c - 1))) (nI f) n (nI (x + 1)) (lens c F (nI x)) (nI x) I = some r ∧ fX8_planOf_L10 (brS c F) (nI f) m (nI (x + 1)) (nI x) J = some r ∧ (r = -1 ∨ ∃ y, y < 2 ^ (c - 1) ∧ r = nI y) := ih (x + 1) n m (lens c F (nI x)) (nI x) (by omega) (by omega) (by omega) (Or.inr ⟨x, by omega, rfl, rfl⟩)
    have l8 := len8 (c := c) (s := nI x) hF (by omega) h10 hxl
    have hbits : fJ6_bitCount_0f7a4 (nI x) = some (pc10 (nI x)) := bc_e (fun i hi => hxl i (by omega))
    rw [fX5_planFor_L24, if_neg (show ¬ nI (2 ^ (c - 1)) ≤ nI x by rw [nI_leP (by omega) (by omega)]; omega), hbr, fX8_planOf_L10, if_neg (show ¬ (512 : Int32) ≤ nI x from show ¬ nI 512 ≤ nI x by rw [nI_leP (by omega) (by omega)]; omega), nI_1]
    by_cases hm0 : (nI x &&& (brS c F ^^^ (-1))) = 0
    · rw [if_pos hm0, if_pos hm0, len7 hW, ob_s, l8, ob_s, L4, ald_n (by omega) (by omega), hF, ob_s, q6]
      obtain ⟨k, k1, k2, k3⟩ := lack_e hW hF hf (brS c F &&& (nI x ^^^ (-1)))
      rw [k1, k2, ob_s, ob_s]
      have kz : (k ≤ 0) = (k = 0) := by
        rw [toInt_le, toInt_0]
        exact propext ⟨fun h => Int32.toInt_inj.mp (by rw [toInt_0]; omega), fun h => by rw [h, toInt_0]; omega⟩
      rcases hb with hb | ⟨y, hy, hby, ha⟩
      · rw [if_pos hb, ob_s, if_neg n10, if_pos hb, ob_s, plet_d, if_neg n10]
        by_cases hst : F 4 < lens c F (nI x)
        · rw [if_pos hst, if_pos hst, ob2_some, ob_s]
          exact skip
        · rw [if_neg hst, if_neg hst]
          by_cases hk : k = 0
          · rw [if_pos hk, if_pos (by rw [kz]; exact hk), ob2_some, ob_s]
            exact take
          · rw [if_neg hk, if_neg (by rw [kz]; exact hk), ob2_some, ob_s]
            exact skip
      · have nb : ¬ b = -1 := by rw [hby]; exact nI_nm1 (by omega)
        have l8b := len8 (c := c) (s := b) hF (by omega) h10 (fun i hi => by rw [hby]; exact bt_low (k := c - 1) hy hi)
        have hbits2 : fJ6_bitCount_0f7a4 b = some (pc10 b) := bc_e (fun i hi => by rw [hby]; exact bt_low (k := c - 1) hy (by omega))
        rw [if_neg nb, if_neg nb, l8b, ob_s, ha, hbits, hbits2, bits8, bits8]
        simp only [ob_s]
        rw [ha] at skip
        by_cases hlt : lens c F (nI x) < lens c F b
        · rw [if_pos hlt]
          by_cases hst : F 4 < lens c F (nI x)
          · simp only [ob_s, if_pos hst, if_neg n10, ob2_some]
            exact skip
          · by_cases hk : k = 0
            · simp only [ob_s, if_neg hst, if_neg n10, if_pos hk, ob2_some, kz, plet_d]
              exact take
            · simp only [ob_s, if_neg hst, if_neg n10, if_neg hk, ob2_some, kz]
              exact skip
        · rw [if_neg hlt]
          by_cases heq : lens c F (nI x) = lens c F b
          · rw [if_pos heq]
            by_cases hpc : pc10 b ≤ pc10 (nI x)
            · rw [if_pos hpc]
              simp only [ob_s, if_true, ob2_some, plet_d, ite_self]
              exact skip
            · rw [if_neg hpc]
              by_cases hst : F 4 < lens c F (nI x)
              · simp only [ob_s, if_pos hst, if_neg n10, ob2_some]
                exact skip
              · by_cases hk : k = 0
                · simp only [ob_s, if_neg hst, if_neg n10, if_pos hk, ob2_some, kz, plet_d]
                  exact take
                · simp only [ob_s, if_neg hst, if_neg n10, if_neg hk, ob2_some, kz]
                  exact skip
          · rw [if_neg heq]
            simp only [ob_s, if_true, ob2_some, plet_d, ite_self]
            exact skip
    · rw [if_neg hm0, if_neg hm0, ob2_some, ob_s]
      exact skip
theorem one_shl : ∀ k, k < 10 → ((1 : Int32) <<< (nI k &&& 31)) = nI (2 ^ k) := by decide +kernel
theorem imax_0 {n : Nat} (h : n < 2 ^ 31) : imax 0 (nI n) = nI n := by
  unfold imax
  split
  · rfl
  · next h2 =>
    rw [toInt_lt', toInt_0, nI_toInt h] at h2
    have : n = 0 := by omega
    rw [this]
    rfl
theorem plan_e {c e f : Nat} {I J : Mem} {F : Row} (hW : EW c e I 1 F) (hF : J 307 = F) (hf : f ≤ 99) : ∃ r, fX5_planFor 1 (nI f) I = some r ∧ fX8_planOf (nI f) J = some r ∧ (r = -1 ∨ ∃ y, y < 2 ^ (c - 1) ∧ r = nI y) := by
  have h10 := hW.c10
  have h2 := hW.1.1.1
  have p9 := pow9 h10
  have I0 : I (1 + 1) 0 = nI c := hW.2.1.1
  have K0 : J 307 0 = nI c := by rw [hF]; exact hW.1.1.2.2.1
  obtain ⟨r, r1, r2, r3⟩ := pl_st hW hF hf (2 ^ (c - 1)) 0 zF zF 0 (-1) (by omega) (zF_g (by omega)) (zF_g (by omega)) (Or.inl rfl)
  refine ⟨r, ?_, ?_, r3⟩
  · unfold fX5_planFor
    rw [I0, nI_sub1 (by omega) (by omega), imax_0 (by omega), one_shl _ (by omega), show fX5_planFor_L24 1 (nI (2 ^ (c - 1))) (nI f) zF 0 0 (-1) I = _ from r1]
    rfl
  · unfold fX8_planOf
    rw [brok_e K0 (by omega) h10, ob_s, hF, show fX8_planOf_L10 (bsl (broB F) 0 (c - 1) 0) (nI f) zF 0 (-1) J = _ from r2]
    rfl
theorem q_27 : eqP_27 Rel := by
  intro n I J hn hR p0
  obtain ⟨c, e, ⟨h2, h10, h30, -⟩, ⟨J0, J5, J6⟩, ⟨I0, I7⟩, hW⟩ := hR.facts hn
  have K7 : (wr J 306 0 0) 307 = J 307 := funext fun j => w7
  unfold fX7_plan fX8_plan
  rcases inb (lo := 1) (hi := 100) (by omega) (by omega) p0 with ⟨j, h1, h3, rfl⟩ | ho
  · obtain ⟨r, r1, r2, -⟩ := plan_e hW K7 (f := j) (by omega)
    refine ⟨0, r, r, wr J 306 0 0, ?_, ?_, Rel.J0 hR 0, Or.inl ⟨rfl, wr_s, rfl⟩⟩
    · rw [chkF_i h1 h3, ob_s, if_pos rfl, r1]
      rfl
    · rw [noF_i h1 h3, ob2_some, if_pos rfl, r2]
      rfl
  · exact ⟨2, 0, 0, wr (wr J 306 0 0) 306 0 1, by rw [chkF_o ho]; rfl, by rw [noF_o ho]; rfl, wJ0 hR 1, Or.inr ⟨rfl, wr_s⟩⟩
theorem q_28 : eqP_28 Rel := by
  intro n I J hn hR p0
  obtain ⟨c, e, ⟨h2, h10, h30, -⟩, ⟨J0, J5, J6⟩, ⟨I0, I7⟩, hW⟩ := hR.facts hn
  have K7 : (wr J 306 0 0) 307 = J 307 := funext fun j => w7
  unfold fX7_planLength fX8_planLength
  rcases inb (lo := 1) (hi := 100) (by omega) (by omega) p0 with ⟨j, h1, h3, rfl⟩ | ho
  · obtain ⟨r, r1, r2, r3⟩ := plan_e hW K7 (f := j) (by omega)
    rw [chkF_i h1 h3, ob_s, if_pos rfl, r1, ob_s, noF_i h1 h3, ob2_some, if_pos rfl, r2, ob_s]
    by_cases hr : r = -1
    · rw [if_pos hr, if_pos hr]
      exact ⟨0, -1, -1, wr J 306 0 0, rfl, rfl, Rel.J0 hR 0, Or.inl ⟨rfl, wr_s, rfl⟩⟩
    · obtain ⟨y, hy, hry⟩ := r3.resolve_left hr
      rw [if_neg hr, if_neg hr, len7 hW, len8 (c := c) K7 (by omega) h10 (fun i hi => by rw [hry]; exact bt_low hy hi)]
      exact ⟨0, _, _, wr J 306 0 0, rfl, rfl, Rel.J0 hR 0, Or.inl ⟨rfl, wr_s, rfl⟩⟩
  · exact ⟨2, 0, 0, wr (wr J 306 0 0) 306 0 1, by rw [chkF_o ho]; rfl, by rw [noF_o ho]; rfl, wJ0 hR 1, Or.inr ⟨rfl, wr_s⟩⟩
