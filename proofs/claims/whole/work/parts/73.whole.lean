/-! THE LAW'S LOOP AND ITS START -/
theorem lw_len {L : Nat} (hL : L ≤ 3072) : (nI L - 6).toInt = (L : Int) - 6 := by
  rw [Int32.toInt_sub, nI_toInt (by omega), show (6 : Int32).toInt = 6 by decide, Int.bmod_eq_of_le (by omega) (by omega)]
theorem lw_gt {n L : Nat} (hL : L ≤ 3072) (hn : n ≤ 4000) : (nI L - 6 < nI n) = (L < n + 6) := by
  rw [Int32.lt_iff_toInt_lt, lw_len hL, nI_toInt (by omega)]
  exact propext (by omega)
theorem lw_63 (x : Int32) : ∃ k : Nat, k < 1024 ∧ x &&& 63 = nI k := by
  refine set10 fun i hi => ?_
  rw [b_and]
  by_cases h : i < 32
  · have : ∀ i, i < 32 → 10 ≤ i → bt 63 i = false := by decide +kernel
    rw [this i h hi, Bool.and_false]
  · rw [b_big (by omega), Bool.false_and]
theorem lw_tI {k : Nat} (h : k < 45) : (nI k).toInt = k ∧ ¬ (nI k).toInt < 0 ∧ ¬ 44 < (nI k).toInt := by
  rw [nI_toInt (by omega)]
  omega
set_option maxHeartbeats 8000000 in
set_option maxRecDepth 100000 in
theorem law_loop {p : Program} {e : Env} {s : State} {m : MethodId} {below : List Frame} {meth : Method} {c : Code} (l : Launch) (hlT : l.stackTraces = false) {b L : Nat} {xs : Nat → Int32} (hL : L ≤ 3072) (hret : meth.sig.returnType = ret) {g : zb_G} (hg : g.2.2 = s.heap.size) (X : zb_X g p m c cL_law 10 s #[Value.ref b] RL meth) (hnc : zb_Nc s) (hX : va_X b L xs s s.heap) (hbl : b < s.heap.size) :
    ∀ (d n cells slots : Nat) (I J O : Mem) (H : Heap) (locs : List Loc) (ls : Array Slot), L < n + 6 * d + 6 → n ≤ L → cells + d ≤ 601024 → slots + 6 * d ≤ 7293034 → Rel n I J → va_P g.1 vwCl (zb_ws g 320 (zb_ce g I J O)) H → va_S (zb_A g) s.heap H locs → lv_has ls 10 [(5, .int (Int32.ofNat n)), (4, .ref (g.2.2 + 319)), (3, .ref (g.2.2 + 318)), (2, .ref (g.2.2 + 306)), (1, .ref (g.2.2 + 0)), (0, .ref b)] →
      W p l e room_1 s m #[Value.ref b] below meth c H locs cells slots (lw_Z below #[Value.ref b] s) (F0 m 28 ls []) := by
  have hx := X.1.1
  have hb := X.1.2.1
  have hlocks := X.2.1
  have hbA : ¬ zb_A g b := by
    show ¬ g.2.2 ≤ b
    omega
  have f1 : 13 ≤ room_1.frames := by decide
  have f2 : 472 ≤ room_1.locals := by decide
  have hend : ∀ (n cells slots : Nat) (H : Heap) (locs : List Loc) (ls : Array Slot), cells ≤ 601024 → slots ≤ 7293034 → va_S (zb_A g) s.heap H locs → W p l e room_1 s m #[Value.ref b] below meth c H locs cells slots (lw_Z below #[Value.ref b] s) (F0 m 2556 ls []) := by
    intro n cells slots H locs ls h1 h2 hS
    refine lv_iconst (v := 1) hx hb dL_law_2556 (by decide) ?_
    refine va_forget (fun q hq => by have := hS.2.2 q hq; rw [← hg]; exact this) ?_
    refine W.widen (k := 601024) (n := 7293034) h1 h2 ?_
    refine W.base ?_
    exact lw_ret (d0 := s.drawn) (Drawn.sameBut.refl s.drawn lw_cs) hx hb hret hlocks dL_law_2557
  intro d
  induction d with
  | zero =>
    intro n cells slots I J O H locs ls h1 h2 h3 h4 hRel hP hS hl
    refine lv_iload hx hb dL_law_28 (lv_at hl 0 rfl) ?_
    refine lv_aload_n hx hb dL_law_30 rfl (lv_at hl 5 rfl) ?_
    refine va_slen hx hb hX hbl hbA hS dL_law_31 ?_
    refine lv_bipush (v := (6 : Int32)) hx hb dL_law_32 (by decide) ?_
    refine lv_isub hx hb dL_law_34 ?_
    refine lv_icmp_gt (tgt := 2556) hx hb dL_law_35 (by decide) (fun _ => hend n cells slots H locs ls (by omega) (by omega) hS) (fun q => ?_)
    exact absurd ((lw_gt (n := n) hL (by omega)).mpr (by omega)) q
  | succ d ih =>
    intro n cells slots I J O H locs ls h1 h2 h3 h4 hRel hP hS hl
    refine lv_iload hx hb dL_law_28 (lv_at hl 0 rfl) ?_
    refine lv_aload_n hx hb dL_law_30 rfl (lv_at hl 5 rfl) ?_
    refine va_slen hx hb hX hbl hbA hS dL_law_31 ?_
    refine lv_bipush (v := (6 : Int32)) hx hb dL_law_32 (by decide) ?_
    refine lv_isub hx hb dL_law_34 ?_
    refine lv_icmp_gt (tgt := 2556) hx hb dL_law_35 (by decide) (fun _ => hend n cells slots H locs ls (by omega) (by omega) hS) (fun q => ?_)
    have hn : n + 6 ≤ L := by
      rcases Nat.lt_or_ge L (n + 6) with z | z
      · exact absurd ((lw_gt (n := n) hL (by omega)).mpr z) q
      · exact z
    have f3 : cells + 1 ≤ room_1.cells := by
      show cells + 1 ≤ 601024
      omega
    have f4 : slots + 6 ≤ room_1.slots := by
      show slots + 6 ≤ 7293034
      omega
    have kk : ∀ (I J O : Mem) (H : Heap) (locs : List Loc) (ls : Array Slot), Rel (n + 6) I J → va_P g.1 vwCl (zb_ws g 320 (zb_ce g I J O)) H → va_S (zb_A g) s.heap H locs → lv_has ls 10 [(5, .int (Int32.ofNat n)), (4, .ref (g.2.2 + 319)), (3, .ref (g.2.2 + 318)), (2, .ref (g.2.2 + 306)), (1, .ref (g.2.2 + 0)), (0, .ref b)] → W p l e room_1 s m #[Value.ref b] below meth c H locs (cells + 1) (slots + 6) (lw_Z below #[Value.ref b] s) (F0 m 2550 ls []) := by
      intro I J O H locs ls hRel hP hS hl
      refine lv_iinc (v := Int32.ofNat (n + 6)) (lv' := [(5, .int (Int32.ofNat (n + 6))), (4, .ref (g.2.2 + 319)), (3, .ref (g.2.2 + 318)), (2, .ref (g.2.2 + 306)), (1, .ref (g.2.2 + 0)), (0, .ref b)]) hx hb dL_law_2550 hl (k := 0) rfl (nI_addn n 6) (by decide) rfl (fun ls hl => ?_)
      refine lv_goto (tgt := 28) hx hb dL_law_2553 (by decide) ?_
      exact ih (n + 6) (cells + 1) (slots + 6) I J O H locs ls (by omega) hn (by omega) (by omega) hRel hP hS hl
    refine lv_aload_n hx hb dL_law_38 rfl (lv_at hl 5 rfl) ?_
    refine lv_iload hx hb dL_law_39 (lv_at hl 0 rfl) ?_
    refine zr_sld0 X hX hbl hbA hS (by omega) hL dL_law_41 ?_
    refine lv_bipush (v := (63 : Int32)) hx hb dL_law_42 (by decide) ?_
    refine lv_iand hx hb dL_law_44 ?_
    obtain ⟨k, hk, ek⟩ := lw_63 (xs n)
    rw [ek]
    by_cases h44 : k < 45
    · obtain ⟨t1, t2, t3⟩ := lw_tI h44
      have hc : k = 0 ∨ k = 1 ∨ k = 2 ∨ k = 3 ∨ k = 4 ∨ k = 5 ∨ k = 6 ∨ k = 7 ∨ k = 8 ∨ k = 9 ∨ k = 10 ∨ k = 11 ∨ k = 12 ∨ k = 13 ∨ k = 14 ∨ k = 15 ∨ k = 16 ∨ k = 17 ∨ k = 18 ∨ k = 19 ∨ k = 20 ∨ k = 21 ∨ k = 22 ∨ k = 23 ∨ k = 24 ∨ k = 25 ∨ k = 26 ∨ k = 27 ∨ k = 28 ∨ k = 29 ∨ k = 30 ∨ k = 31 ∨ k = 32 ∨ k = 33 ∨ k = 34 ∨ k = 35 ∨ k = 36 ∨ k = 37 ∨ k = 38 ∨ k = 39 ∨ k = 40 ∨ k = 41 ∨ k = 42 ∨ k = 43 ∨ k = 44 := by omega
      rcases hc with rfl | rfl | rfl | rfl | rfl | rfl | rfl | rfl | rfl | rfl | rfl | rfl | rfl | rfl | rfl | rfl | rfl | rfl | rfl | rfl | rfl | rfl | rfl | rfl | rfl | rfl | rfl | rfl | rfl | rfl | rfl | rfl | rfl | rfl | rfl | rfl | rfl | rfl | rfl | rfl | rfl | rfl | rfl | rfl | rfl
      · refine lv_tableIn (off := 195) (tgt := 240) hx hb dL_law_45 t2 t3 (by rw [t1]; rfl) (by decide) ?_
        exact lw_c0 q_0 hRel hlT X hnc hX hbl hbA hn hL hP hS hl f1 f2 f3 f4 kk
      · refine lv_tableIn (off := 299) (tgt := 344) hx hb dL_law_45 t2 t3 (by rw [t1]; rfl) (by decide) ?_
        exact lw_c1 q_1 hRel hlT X hnc hX hbl hbA hn hL hP hS hl f1 f2 f3 f4 kk
      · refine lv_tableIn (off := 312) (tgt := 357) hx hb dL_law_45 t2 t3 (by rw [t1]; rfl) (by decide) ?_
        exact lw_c2 q_2 hRel hlT X hnc hX hbl hbA hn hL hP hS hl f1 f2 f3 f4 kk
      · refine lv_tableIn (off := 325) (tgt := 370) hx hb dL_law_45 t2 t3 (by rw [t1]; rfl) (by decide) ?_
        exact lw_c3 q_3 hRel hlT X hnc hX hbl hbA hn hL hP hS hl f1 f2 f3 f4 kk
      · refine lv_tableIn (off := 338) (tgt := 383) hx hb dL_law_45 t2 t3 (by rw [t1]; rfl) (by decide) ?_
        exact lw_c4 q_4 hRel hlT X hnc hX hbl hbA hn hL hP hS hl f1 f2 f3 f4 kk
      · refine lv_tableIn (off := 351) (tgt := 396) hx hb dL_law_45 t2 t3 (by rw [t1]; rfl) (by decide) ?_
        exact lw_c5 q_5 hRel hlT X hnc hX hbl hbA hn hL hP hS hl f1 f2 f3 f4 kk
      · refine lv_tableIn (off := 407) (tgt := 452) hx hb dL_law_45 t2 t3 (by rw [t1]; rfl) (by decide) ?_
        exact lw_c6 q_6 hRel hlT X hnc hX hbl hbA hn hL hP hS hl f1 f2 f3 f4 kk
      · refine lv_tableIn (off := 475) (tgt := 520) hx hb dL_law_45 t2 t3 (by rw [t1]; rfl) (by decide) ?_
        exact lw_c7 q_7 hRel hlT X hnc hX hbl hbA hn hL hP hS hl f1 f2 f3 f4 kk
      · refine lv_tableIn (off := 543) (tgt := 588) hx hb dL_law_45 t2 t3 (by rw [t1]; rfl) (by decide) ?_
        exact lw_c8 q_8 hRel hlT X hnc hX hbl hbA hn hL hP hS hl f1 f2 f3 f4 kk
      · refine lv_tableIn (off := 599) (tgt := 644) hx hb dL_law_45 t2 t3 (by rw [t1]; rfl) (by decide) ?_
        exact lw_c9 q_9 hRel hlT X hnc hX hbl hbA hn hL hP hS hl f1 f2 f3 f4 kk
      · refine lv_tableIn (off := 667) (tgt := 712) hx hb dL_law_45 t2 t3 (by rw [t1]; rfl) (by decide) ?_
        exact lw_c10 q_10 hRel hlT X hnc hX hbl hbA hn hL hP hS hl f1 f2 f3 f4 kk
      · refine lv_tableIn (off := 723) (tgt := 768) hx hb dL_law_45 t2 t3 (by rw [t1]; rfl) (by decide) ?_
        exact lw_c11 q_11 hRel hlT X hnc hX hbl hbA hn hL hP hS hl f1 f2 f3 f4 kk
      · refine lv_tableIn (off := 791) (tgt := 836) hx hb dL_law_45 t2 t3 (by rw [t1]; rfl) (by decide) ?_
        exact lw_c12 q_12 hRel hlT X hnc hX hbl hbA hn hL hP hS hl f1 f2 f3 f4 kk
      · refine lv_tableIn (off := 859) (tgt := 904) hx hb dL_law_45 t2 t3 (by rw [t1]; rfl) (by decide) ?_
        exact lw_c13 q_13 hRel hlT X hnc hX hbl hbA hn hL hP hS hl f1 f2 f3 f4 kk
      · refine lv_tableIn (off := 915) (tgt := 960) hx hb dL_law_45 t2 t3 (by rw [t1]; rfl) (by decide) ?_
        exact lw_c14 q_14 hRel hlT X hnc hX hbl hbA hn hL hP hS hl f1 f2 f3 f4 kk
      · refine lv_tableIn (off := 956) (tgt := 1001) hx hb dL_law_45 t2 t3 (by rw [t1]; rfl) (by decide) ?_
        exact lw_c15 q_15 hRel hlT X hnc hX hbl hbA hn hL hP hS hl f1 f2 f3 f4 kk
      · refine lv_tableIn (off := 997) (tgt := 1042) hx hb dL_law_45 t2 t3 (by rw [t1]; rfl) (by decide) ?_
        exact lw_c16 q_16 hRel hlT X hnc hX hbl hbA hn hL hP hS hl f1 f2 f3 f4 kk
      · refine lv_tableIn (off := 1075) (tgt := 1120) hx hb dL_law_45 t2 t3 (by rw [t1]; rfl) (by decide) ?_
        exact lw_c17 q_17 hRel hlT X hnc hX hbl hbA hn hL hP hS hl f1 f2 f3 f4 kk
      · refine lv_tableIn (off := 1119) (tgt := 1164) hx hb dL_law_45 t2 t3 (by rw [t1]; rfl) (by decide) ?_
        exact lw_c18 q_18 hRel hlT X hnc hX hbl hbA hn hL hP hS hl f1 f2 f3 f4 kk
      · refine lv_tableIn (off := 1187) (tgt := 1232) hx hb dL_law_45 t2 t3 (by rw [t1]; rfl) (by decide) ?_
        exact lw_c19 q_19 hRel hlT X hnc hX hbl hbA hn hL hP hS hl f1 f2 f3 f4 kk
      · refine lv_tableIn (off := 1243) (tgt := 1288) hx hb dL_law_45 t2 t3 (by rw [t1]; rfl) (by decide) ?_
        exact lw_c20 q_20 hRel hlT X hnc hX hbl hbA hn hL hP hS hl f1 f2 f3 f4 kk
      · refine lv_tableIn (off := 1256) (tgt := 1301) hx hb dL_law_45 t2 t3 (by rw [t1]; rfl) (by decide) ?_
        exact lw_c21 q_21 hRel hlT X hnc hX hbl hbA hn hL hP hS hl f1 f2 f3 f4 kk
      · refine lv_tableIn (off := 1312) (tgt := 1357) hx hb dL_law_45 t2 t3 (by rw [t1]; rfl) (by decide) ?_
        exact lw_c22 q_22 hRel hlT X hnc hX hbl hbA hn hL hP hS hl f1 f2 f3 f4 kk
      · refine lv_tableIn (off := 1325) (tgt := 1370) hx hb dL_law_45 t2 t3 (by rw [t1]; rfl) (by decide) ?_
        exact lw_c23 q_23 hRel hlT X hnc hX hbl hbA hn hL hP hS hl f1 f2 f3 f4 kk
      · refine lv_tableIn (off := 1405) (tgt := 1450) hx hb dL_law_45 t2 t3 (by rw [t1]; rfl) (by decide) ?_
        exact lw_c24 q_24 hRel hlT X hnc hX hbl hbA hn hL hP hS hl f1 f2 f3 f4 kk
      · refine lv_tableIn (off := 1485) (tgt := 1530) hx hb dL_law_45 t2 t3 (by rw [t1]; rfl) (by decide) ?_
        exact lw_c25 q_25 hRel hlT X hnc hX hbl hbA hn hL hP hS hl f1 f2 f3 f4 kk
      · refine lv_tableIn (off := 1498) (tgt := 1543) hx hb dL_law_45 t2 t3 (by rw [t1]; rfl) (by decide) ?_
        exact lw_c26 q_26 hRel hlT X hnc hX hbl hbA hn hL hP hS hl f1 f2 f3 f4 kk
      · refine lv_tableIn (off := 1554) (tgt := 1599) hx hb dL_law_45 t2 t3 (by rw [t1]; rfl) (by decide) ?_
        exact lw_c27 q_27 hRel hlT X hnc hX hbl hbA hn hL hP hS hl f1 f2 f3 f4 kk
      · refine lv_tableIn (off := 1610) (tgt := 1655) hx hb dL_law_45 t2 t3 (by rw [t1]; rfl) (by decide) ?_
        exact lw_c28 q_28 hRel hlT X hnc hX hbl hbA hn hL hP hS hl f1 f2 f3 f4 kk
      · refine lv_tableIn (off := 1666) (tgt := 1711) hx hb dL_law_45 t2 t3 (by rw [t1]; rfl) (by decide) ?_
        exact lw_c29 q_29 hRel hlT X hnc hX hbl hbA hn hL hP hS hl f1 f2 f3 f4 kk
      · refine lv_tableIn (off := 1734) (tgt := 1779) hx hb dL_law_45 t2 t3 (by rw [t1]; rfl) (by decide) ?_
        exact lw_c30 q_30 hRel hlT X hnc hX hbl hbA hn hL hP hS hl f1 f2 f3 f4 kk
      · refine lv_tableIn (off := 1747) (tgt := 1792) hx hb dL_law_45 t2 t3 (by rw [t1]; rfl) (by decide) ?_
        exact lw_c31 q_31 hRel hlT X hnc hX hbl hbA hn hL hP hS hl f1 f2 f3 f4 kk
      · refine lv_tableIn (off := 1827) (tgt := 1872) hx hb dL_law_45 t2 t3 (by rw [t1]; rfl) (by decide) ?_
        exact lw_c32 q_32 hRel hlT X hnc hX hbl hbA hn hL hP hS hl f1 f2 f3 f4 kk
      · refine lv_tableIn (off := 1883) (tgt := 1928) hx hb dL_law_45 t2 t3 (by rw [t1]; rfl) (by decide) ?_
        exact lw_c33 q_33 hRel hlT X hnc hX hbl hbA hn hL hP hS hl f1 f2 f3 f4 kk
      · refine lv_tableIn (off := 1939) (tgt := 1984) hx hb dL_law_45 t2 t3 (by rw [t1]; rfl) (by decide) ?_
        exact lw_c34 q_34 hRel hlT X hnc hX hbl hbA hn hL hP hS hl f1 f2 f3 f4 kk
      · refine lv_tableIn (off := 1995) (tgt := 2040) hx hb dL_law_45 t2 t3 (by rw [t1]; rfl) (by decide) ?_
        exact lw_c35 q_35 hRel hlT X hnc hX hbl hbA hn hL hP hS hl f1 f2 f3 f4 kk
      · refine lv_tableIn (off := 2051) (tgt := 2096) hx hb dL_law_45 t2 t3 (by rw [t1]; rfl) (by decide) ?_
        exact lw_c36 q_36 hRel hlT X hnc hX hbl hbA hn hL hP hS hl f1 f2 f3 f4 kk
      · refine lv_tableIn (off := 2119) (tgt := 2164) hx hb dL_law_45 t2 t3 (by rw [t1]; rfl) (by decide) ?_
        exact lw_c37 q_37 hRel hlT X hnc hX hbl hbA hn hL hP hS hl f1 f2 f3 f4 kk
      · refine lv_tableIn (off := 2187) (tgt := 2232) hx hb dL_law_45 t2 t3 (by rw [t1]; rfl) (by decide) ?_
        exact lw_c38 q_38 hRel hlT X hnc hX hbl hbA hn hL hP hS hl f1 f2 f3 f4 kk
      · refine lv_tableIn (off := 2267) (tgt := 2312) hx hb dL_law_45 t2 t3 (by rw [t1]; rfl) (by decide) ?_
        exact lw_c39 q_39 hRel hlT X hnc hX hbl hbA hn hL hP hS hl f1 f2 f3 f4 kk
      · refine lv_tableIn (off := 2280) (tgt := 2325) hx hb dL_law_45 t2 t3 (by rw [t1]; rfl) (by decide) ?_
        exact lw_c40 q_40 hRel hlT X hnc hX hbl hbA hn hL hP hS hl f1 f2 f3 f4 kk
      · refine lv_tableIn (off := 2293) (tgt := 2338) hx hb dL_law_45 t2 t3 (by rw [t1]; rfl) (by decide) ?_
        exact lw_c41 q_41 hRel hlT X hnc hX hbl hbA hn hL hP hS hl f1 f2 f3 f4 kk
      · refine lv_tableIn (off := 2349) (tgt := 2394) hx hb dL_law_45 t2 t3 (by rw [t1]; rfl) (by decide) ?_
        exact lw_c42 q_42 hRel hlT X hnc hX hbl hbA hn hL hP hS hl f1 f2 f3 f4 kk
      · refine lv_tableIn (off := 2393) (tgt := 2438) hx hb dL_law_45 t2 t3 (by rw [t1]; rfl) (by decide) ?_
        exact lw_c43 q_43 hRel hlT X hnc hX hbl hbA hn hL hP hS hl f1 f2 f3 f4 kk
      · refine lv_tableIn (off := 2449) (tgt := 2494) hx hb dL_law_45 t2 t3 (by rw [t1]; rfl) (by decide) ?_
        exact lw_c44 q_44 hRel hlT X hnc hX hbl hbA hn hL hP hS hl f1 f2 f3 f4 kk
    · refine lv_tableOut (tgt := 2550) hx hb dL_law_45 (Or.inr (by rw [nI_toInt (by omega)]; omega)) (by decide) ?_
      exact W.widen (by omega) (by omega) (kk I J O H locs ls (Rel.cong (by omega) (fun _ _ _ => rfl) (fun _ _ _ => rfl) hRel) hP hS hl)
theorem st_long {g : zb_G} {I J : Mem} : zb_ws g 319 (va_up (zb_ce g I J mem0) 318 (.inl (g.2.1 4, (1, .inr (.inl (fun _ => 0)))))) = zb_ws g 319 (zb_ce g I J mem0) := zb_cong fun q hq => by
  by_cases h : q = 318
  · subst h
    rw [va_up_self]
    show _ = zb_ce g I J mem0 318
    simp [zb_ce, zb_mm, zb_kd, mem0]
  · rw [va_up_ne _ _ h]
theorem st_dbl {g : zb_G} {I J : Mem} : zb_ws g 320 (va_up (zb_ce g I J mem0) 319 (.inl (g.2.1 5, (1, .inr (.inr (.inr (.inl (fun _ => 0)))))))) = zb_ws g 320 (zb_ce g I J mem0) := zb_cong fun q hq => by
  by_cases h : q = 319
  · subst h
    rw [va_up_self]
    show _ = zb_ce g I J mem0 319
    have e : FP.f2d (0 : Int32).toUInt32 = 0 := by decide +kernel
    simp [zb_ce, zb_mm, zb_kd, mem0, e]
  · rw [va_up_ne _ _ h]
set_option maxHeartbeats 8000000 in
set_option maxRecDepth 100000 in
/-- the law, from its entry -/
theorem whole_start {p : Program} {e : Env} {s : State} {m : MethodId} {below : List Frame} {meth : Method} {c : Code} (l : Launch) (hflags : l.flags = flags0) {b L : Nat} {xs : Nat → Int32} (hL : L ≤ 3072) (C0 : lw_At p s m meth c b L xs) : W p l e room_1 s m #[Value.ref b] below meth c s.heap [] 0 0 (lw_Z below #[Value.ref b] s) (entryFrame m ([Value.ref b] : List Value).toArray 10) := by
  obtain ⟨hx, hb, hr, hml, hown, hts, hX, hbl, hlocks, hgv⟩ := id C0
  have hlT : l.stackTraces = false := by unfold Launch.stackTraces; rw [hflags]; decide
  obtain ⟨g, hg, X⟩ := st_X hx hb hml hown hts hlocks hgv
  have hnc : zb_Nc s := st_Nc (flat_of_before _ hgv)
  have hao : va_AO "BuoyString$State" s := va_AO.of (hts _ (by decide +kernel))
  obtain ⟨Iq, Jq, eI, eJ, hRel⟩ := init_R
  have hS : va_S (zb_A g) s.heap s.heap [] := va_S.rf
  have hP : va_P g.1 vwCl (zb_ws g 0 (zb_ce g mem0 mem0 mem0)) s.heap := fun k q h => by simp [zb_ws] at h
  have hl := lv_entry ([.ref b]) (n := 10) (Nat.le_of_ble_eq_true rfl)
  rw [lg_entry_eq]
  generalize (lg_sl ([.ref b]) ++ List.replicate (10 - (lg_sl ([.ref b])).length) Slot.unset).toArray = ls at hl ⊢
  have hl : lv_has ls 10 [(0, .ref b)] := hl
  have inw : ∀ {w : Cond}, w ∈ lw_tbl → goodWord w = true → w ∈ zb_Wd := fun h1 h2 => List.mem_filter.mpr ⟨h1, h2⟩
  refine zr_newo (ci := 7) (N := 16) (fs := zb_df 7) X hP hS (by rw [hg]; rfl) rfl wi_7 tyX7 tyX7_ok (inw (by decide +kernel) (by decide +kernel)) (inw (by decide +kernel) (by decide +kernel)) (inw (by decide +kernel) (by decide +kernel)) (by decide +kernel) (Nat.le_of_ble_eq_true rfl) (Nat.le_of_ble_eq_true rfl) dL_law_0 (fun H hP hS => ?_)
  refine lv_dup hx hb dL_law_3 rfl ?_
  refine zr_sz hP (by rw [hg]) (by omega) (fun hsz => ?_)
  refine zr_cI (rest := [.ref (g.2.2 + 0)]) X hP hS hsz hao (ci_X7 (g := g) (k := 0) rfl l eI (va_up_self _ _ _)) ⟨⟨inw (by decide +kernel) (by decide +kernel), inw (by decide +kernel) (by decide +kernel), inw (by decide +kernel) (by decide +kernel), inw (by decide +kernel) (by decide +kernel)⟩, ⟨by decide, by decide, by decide +kernel⟩, rfl⟩ hl.1 (Nat.le_of_ble_eq_true rfl) ⟨Nat.le_of_ble_eq_true rfl, Nat.le_of_ble_eq_true rfl⟩ ⟨Nat.le_of_ble_eq_true rfl, Nat.le_of_ble_eq_true rfl⟩ dL_law_4 (fun H locs hP hS => ?_)
  refine lv_astore_n (lv' := [(1, .ref (g.2.2 + 0)), (0, .ref b)]) hx hb dL_law_7 rfl hl (by decide) rfl (fun ls hl => ?_)
  refine zr_sz hP (by rw [hg]) (by omega) (fun hsz => ?_)
  refine zr_newo (ci := 8) (N := 27) (fs := zb_df 8) X hP hS hsz rfl wi_8 tyX8 tyX8_ok (inw (by decide +kernel) (by decide +kernel)) (inw (by decide +kernel) (by decide +kernel)) (inw (by decide +kernel) (by decide +kernel)) (by decide +kernel) (Nat.le_of_ble_eq_true rfl) (Nat.le_of_ble_eq_true rfl) dL_law_8 (fun H hP hS => ?_)
  refine lv_dup hx hb dL_law_11 rfl ?_
  refine zr_sz hP (by rw [hg]) (by omega) (fun hsz => ?_)
  refine zr_cI (rest := [.ref (g.2.2 + 306)]) X hP hS hsz hao (ci_X8 (g := g) (k := 306) rfl l (I := Iq) eJ (va_up_self _ _ _) (fun q hq => va_up_ne _ _ (by omega))) ⟨⟨inw (by decide +kernel) (by decide +kernel), inw (by decide +kernel) (by decide +kernel), inw (by decide +kernel) (by decide +kernel), inw (by decide +kernel) (by decide +kernel)⟩, ⟨by decide, by decide, by decide +kernel⟩, rfl⟩ hl.1 (Nat.le_of_ble_eq_true rfl) ⟨Nat.le_of_ble_eq_true rfl, Nat.le_of_ble_eq_true rfl⟩ ⟨Nat.le_of_ble_eq_true rfl, Nat.le_of_ble_eq_true rfl⟩ dL_law_12 (fun H locs hP hS => ?_)
  refine lv_astore_n (lv' := [(2, .ref (g.2.2 + 306)), (1, .ref (g.2.2 + 0)), (0, .ref b)]) hx hb dL_law_15 rfl hl (by decide) rfl (fun ls hl => ?_)
  refine lv_iconst (v := 1) hx hb dL_law_16 (by decide) ?_
  refine zr_sz hP (by rw [hg]) (by omega) (fun hsz => ?_)
  refine zr_newa (ty := .long) (N := 1) (a0 := (1, .inr (.inl (fun _ => 0)))) 4 X hP hS hsz (inw (by decide +kernel) (by decide +kernel)) rfl rfl (fun h => h) (fun _ => rfl) (by decide) (by decide) (by decide) (Nat.le_of_ble_eq_true rfl) (Nat.le_of_ble_eq_true rfl) dL_law_17 (fun H hP hS => ?_)
  rw [st_long] at hP
  refine lv_astore_n (lv' := [(3, .ref (g.2.2 + 318)), (2, .ref (g.2.2 + 306)), (1, .ref (g.2.2 + 0)), (0, .ref b)]) hx hb dL_law_19 rfl hl (by decide) rfl (fun ls hl => ?_)
  refine lv_iconst (v := 1) hx hb dL_law_20 (by decide) ?_
  refine zr_sz hP (by rw [hg]) (by omega) (fun hsz => ?_)
  refine zr_newa (ty := .double) (N := 1) (a0 := (1, .inr (.inr (.inr (.inl (fun _ => 0)))))) 5 X hP hS hsz (inw (by decide +kernel) (by decide +kernel)) rfl rfl (fun h => h) (fun _ => rfl) (by decide) (by decide) (by decide) (Nat.le_of_ble_eq_true rfl) (Nat.le_of_ble_eq_true rfl) dL_law_21 (fun H hP hS => ?_)
  rw [st_dbl] at hP
  refine lv_astore (lv' := [(4, .ref (g.2.2 + 319)), (3, .ref (g.2.2 + 318)), (2, .ref (g.2.2 + 306)), (1, .ref (g.2.2 + 0)), (0, .ref b)]) hx hb dL_law_23 hl (by decide) rfl (fun ls hl => ?_)
  refine lv_iconst (v := 0) hx hb dL_law_25 (by decide) ?_
  refine lv_istore (lv' := [(5, .int 0), (4, .ref (g.2.2 + 319)), (3, .ref (g.2.2 + 318)), (2, .ref (g.2.2 + 306)), (1, .ref (g.2.2 + 0)), (0, .ref b)]) hx hb dL_law_26 hl (by decide) rfl (fun ls hl => ?_)
  exact law_loop l hlT hL hr hg X hnc hX hbl 512 0 _ _ Iq Jq mem0 H locs ls (by omega) (Nat.zero_le _) (by decide) (by decide) hRel hP hS hl
