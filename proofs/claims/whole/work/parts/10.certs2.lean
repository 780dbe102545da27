set_option maxHeartbeats 4000000 in
set_option maxRecDepth 100000 in
theorem lpX5_countAgreed_L22 {g : zb_G} {nc : Nat} (hnI : 306 ≤ nc) (l : Launch) {b : Nat} (hB : zb_isB b) {a2 : Int32} {a1 : Int32} {J O : Mem} {p : Program} {e : Env} {s : State} {m : MethodId} {args : Array Value} {below : List Frame} {meth : Method} {c : Code} {Q : State → Prop} (X : zb_X g p m c cX5_countAgreed 5 s args RX5 meth) : ∀ {n9 : Nat} {a3 : Int32} {I : Mem} {Iz : Mem} {H : Heap} {locs : List Loc} {ls : Array Slot}, fX5_countAgreed_L22 b a2 a1 n9 a3 I = some Iz → (∀ (H : Heap) (locs : List Loc) (ls : Array Slot), va_P g.1 vwCl (zb_ws g nc (zb_ce g Iz J O)) H → va_S (zb_A g) s.heap H locs → lv_has ls 5 [] → W p l e { frames := 1, cells := 0, slots := 0, locals := 21 } s m args below meth c H locs 0 0 Q (F0 m 109 ls [])) → va_P g.1 vwCl (zb_ws g nc (zb_ce g I J O)) H → va_S (zb_A g) s.heap H locs → lv_has ls 5 [(3, .int a3), (2, .int a2), (0, .ref (g.2.2 + b)), (1, .int a1)] → W p l e { frames := 1, cells := 0, slots := 0, locals := 21 } s m args below meth c H locs 0 0 Q (F0 m 22 ls []) := by
  have hx := X.1.1
  have hb := X.1.2.1
  have ho := X.1.2.2.2.1
  have hts := X.1.2.2.2.2
  have hZ := X.2.2.2
  intro n9
  induction n9 with
  | zero =>
    intro a3 I Iz H locs ls hf
    exact nomatch hf
  | succ n9 ih =>
    intro a3 I Iz H locs ls hf KK hP hS hl
    rw [fX5_countAgreed_L22] at hf
    refine lv_iload_n hx hb dX5_countAgreed_22 rfl (lv_at hl 0 rfl) ?_
    refine lv_aload_n hx hb dX5_countAgreed_23 rfl (lv_at hl 2 rfl) ?_
    refine gf_X5_12 X hnI hP (zb_b0 hB) dX5_countAgreed_24 ?_
    refine gf_X5_70 X hnI hP (zb_bk (j := 1) hB (by decide) rfl) dX5_countAgreed_27 ?_
    refine lv_icmp_ge (tgt := 109) hx hb dX5_countAgreed_30 (by decide) (fun hc => ?_) (fun hc => ?_)
    · have hf := if_t hc hf
      cases hf
      exact KK H locs ls hP hS (lv_sub hl [] rfl)
    · have hf := if_f hc hf
      refine lv_iload_n hx hb dX5_countAgreed_33 rfl (lv_at hl 1 rfl) ?_
      refine lv_iload_n hx hb dX5_countAgreed_34 rfl (lv_at hl 0 rfl) ?_
      obtain ⟨x3, hx3, hf⟩ := ob_e hf
      refine zr_cNi (rest := []) (As := [.int a2, .int a3]) X hP hS (ct_X7_has (g := g) (nc := nc) (I := I) (J := J) (O := O)  l  hx3) cw_X5_145  rfl hl.1 (Nat.le_of_ble_eq_true rfl) ⟨Nat.le_of_ble_eq_true rfl, Nat.le_of_ble_eq_true rfl⟩ ⟨Nat.le_of_ble_eq_true rfl, Nat.le_of_ble_eq_true rfl⟩ dX5_countAgreed_35 rfl (fun H locs hP hS => ?_)
      obtain ⟨I9, ht, hf⟩ := ob_e hf
      have K1 : ∀ (H : Heap) (locs : List Loc) (ls : Array Slot), va_P g.1 vwCl (zb_ws g nc (zb_ce g I9 J O)) H → va_S (zb_A g) s.heap H locs → lv_has ls 5 [(3, .int a3), (2, .int a2), (0, .ref (g.2.2 + b)), (1, .int a1)] → W p l e { frames := 1, cells := 0, slots := 0, locals := 21 } s m args below meth c H locs 0 0 Q (F0 m 103 ls []) := by
        intro H locs ls hP hS hl
        refine lv_iinc (v := (a3 + (1 : Int32))) (lv' := [(3, .int (a3 + (1 : Int32))), (2, .int a2), (0, .ref (g.2.2 + b)), (1, .int a1)]) hx hb dX5_countAgreed_103 hl (k := 0) rfl rfl (by decide) rfl (fun ls hl => ?_)
        refine lv_goto (tgt := 22) hx hb dX5_countAgreed_106 (by decide) ?_
        exact ih hf KK hP hS (lv_sub hl [0, 1, 2, 3] rfl)
      have hf := ht
      refine lv_if_eq (tgt := 103) hx hb dX5_countAgreed_38 (by decide) (fun hc => ?_) (fun hc => ?_)
      · have hf := if_t hc hf
        cases hf
        exact K1 H locs ls hP hS (lv_sub hl [0, 1, 2, 3] rfl)
      · have hf := if_f hc hf
        refine lv_aload_n hx hb dX5_countAgreed_41 rfl (lv_at hl 2 rfl) ?_
        refine gf_X5_28 X hnI hP (zb_b0 hB) dX5_countAgreed_42 ?_
        refine gf_X5_92 X hnI hP (zb_bk (j := 14) hB (by decide) rfl) dX5_countAgreed_45 ?_
        refine lv_iload_n hx hb dX5_countAgreed_48 rfl (lv_at hl 3 rfl) ?_
        refine lv_bipush (v := (10 : Int32)) hx hb dX5_countAgreed_49 (by decide) ?_
        refine lv_imul hx hb dX5_countAgreed_51 ?_
        refine lv_iload_n hx hb dX5_countAgreed_52 rfl (lv_at hl 0 rfl) ?_
        refine lv_iadd hx hb dX5_countAgreed_53 ?_
        obtain ⟨x4, hx4, hf⟩ := ob_e hf
        refine zr_aldI X hP hnI (zb_bk (j := 23) hB (by decide) rfl) hx4 dX5_countAgreed_54 ?_
        refine lv_aload_n hx hb dX5_countAgreed_55 rfl (lv_at hl 2 rfl) ?_
        refine gf_X5_28 X hnI hP (zb_b0 hB) dX5_countAgreed_56 ?_
        refine gf_X5_114 X hnI hP (zb_bk (j := 14) hB (by decide) rfl) dX5_countAgreed_59 ?_
        refine lv_iload_n hx hb dX5_countAgreed_62 rfl (lv_at hl 3 rfl) ?_
        obtain ⟨x5, hx5, hf⟩ := ob_e hf
        refine zr_aldI X hP hnI (zb_bk (j := 18) hB (by decide) rfl) hx5 dX5_countAgreed_63 ?_
        refine lv_isub hx hb dX5_countAgreed_64 ?_
        refine lv_istore (lv' := [(4, .int (x4 - x5)), (3, .int a3), (2, .int a2), (0, .ref (g.2.2 + b)), (1, .int a1)]) hx hb dX5_countAgreed_65 hl (by decide) rfl (fun ls hl => ?_)
        refine lv_aload_n hx hb dX5_countAgreed_67 rfl (lv_at hl 3 rfl) ?_
        refine gf_X5_12 X hnI hP (zb_b0 hB) dX5_countAgreed_68 ?_
        refine gf_X5_155 X hnI hP (zb_bk (j := 1) hB (by decide) rfl) dX5_countAgreed_71 ?_
        refine lv_iload_n hx hb dX5_countAgreed_74 rfl (lv_at hl 1 rfl) ?_
        refine lv_iload hx hb dX5_countAgreed_75 (lv_at hl 0 rfl) ?_
        refine zr_abs X wk_X5_158 wm_abs1 wm_abs2 wm_abs3 hl.1 (Nat.le_of_ble_eq_true rfl) (Nat.le_of_ble_eq_true rfl) ⟨Nat.le_of_ble_eq_true rfl, Nat.le_of_ble_eq_true rfl⟩ dX5_countAgreed_77 ?_
        refine lv_aload_n hx hb dX5_countAgreed_80 rfl (lv_at hl 3 rfl) ?_
        refine gf_X5_32 X hnI hP (zb_b0 hB) dX5_countAgreed_81 ?_
        obtain ⟨x7, ht, hf⟩ := ob_e hf
        have K2 : ∀ (H : Heap) (locs : List Loc) (ls : Array Slot), va_P g.1 vwCl (zb_ws g nc (zb_ce g I J O)) H → va_S (zb_A g) s.heap H locs → lv_has ls 5 [(3, .int a3), (2, .int a2), (0, .ref (g.2.2 + b)), (1, .int a1)] → W p l e { frames := 1, cells := 0, slots := 0, locals := 21 } s m args below meth c H locs 0 0 Q (F0 m 102 ls [.int x7, .int a3, .ref (g.2.2 + (b + 8))]) := by
          intro H locs ls hP hS hl
          obtain ⟨I8, hI8, hf⟩ := ob_e hf
          refine zr_astI X hP hS hnI (zb_bk (j := 8) hB (by decide) rfl) hI8 dX5_countAgreed_102 (fun H locs hP hS => ?_)
          cases hf
          exact K1 H locs ls hP hS (lv_sub hl [0, 1, 2, 3] rfl)
        have hf := ht
        refine lv_icmp_gt (tgt := 101) hx hb dX5_countAgreed_84 (by decide) (fun hc => ?_) (fun hc => ?_)
        · have hf := if_t hc hf
          refine lv_iconst (v := (0 : Int32)) hx hb dX5_countAgreed_101 (by decide) ?_
          cases hf
          exact K2 H locs ls hP hS (lv_sub hl [1, 2, 3, 4] rfl)
        · have hf := if_f hc hf
          refine lv_aload_n hx hb dX5_countAgreed_87 rfl (lv_at hl 3 rfl) ?_
          refine gf_X5_12 X hnI hP (zb_b0 hB) dX5_countAgreed_88 ?_
          refine gf_X5_155 X hnI hP (zb_bk (j := 1) hB (by decide) rfl) dX5_countAgreed_91 ?_
          refine lv_iload_n hx hb dX5_countAgreed_94 rfl (lv_at hl 1 rfl) ?_
          obtain ⟨x6, hx6, hf⟩ := ob_e hf
          refine zr_aldI X hP hnI (zb_bk (j := 8) hB (by decide) rfl) hx6 dX5_countAgreed_95 ?_
          refine lv_iconst (v := (1 : Int32)) hx hb dX5_countAgreed_96 (by decide) ?_
          refine lv_iadd hx hb dX5_countAgreed_97 ?_
          refine lv_goto (tgt := 102) hx hb dX5_countAgreed_98 (by decide) ?_
          cases hf
          exact K2 H locs ls hP hS (lv_sub hl [1, 2, 3, 4] rfl)
set_option maxHeartbeats 4000000 in
set_option maxRecDepth 100000 in
theorem ct_X5_countAgreed {g : zb_G} {nc : Nat} (hnI : 306 ≤ nc) (l : Launch) {b : Nat} (hB : zb_isB b) {a1 : Int32} {I J O : Mem} {Iq : Mem} (hf : fX5_countAgreed b a1 I = some Iq) : zb_Ct l g nc yX5_countAgreed cX5_countAgreed 5 none 1 21 [.ref (g.2.2 + b), .int a1] (zb_ce g I J O) none (zb_ce g Iq J O) := by
  refine zb_ofW (own := RX5) (by decide +kernel) rfl (Nat.le_of_ble_eq_true rfl) ?_
  intro p e s m args below meth c ls X hr hP hl
  have hx := X.1.1
  have hb := X.1.2.1
  have ho := X.1.2.2.2.1
  have hts := X.1.2.2.2.2
  have hZ := X.2.2.2
  have hl : lv_has ls 5 [(0, .ref (g.2.2 + b)), (1, .int a1)] := hl
  have hS : va_S (zb_A g) s.heap s.heap [] := va_S.rf
  obtain ⟨H, hH⟩ : ∃ H, H = s.heap := ⟨_, rfl⟩
  obtain ⟨locs, hlocs⟩ : ∃ z : List Loc, z = [] := ⟨_, rfl⟩
  rw [← hH] at hP
  have hS : va_S (zb_A g) s.heap H locs := by rw [hH, hlocs]; exact hS
  show W p l e _ s m args below meth c s.heap [] 0 0 _ _
  rw [← hH, ← hlocs]
  rw [fX5_countAgreed] at hf
  refine lv_aload_n hx hb dX5_countAgreed_0 rfl (lv_at hl 0 rfl) ?_
  refine gf_X5_28 X hnI hP (zb_b0 hB) dX5_countAgreed_1 ?_
  refine gf_X5_133 X hnI hP (zb_bk (j := 14) hB (by decide) rfl) dX5_countAgreed_4 ?_
  refine lv_iload_n hx hb dX5_countAgreed_7 rfl (lv_at hl 1 rfl) ?_
  obtain ⟨x1, hx1, hf⟩ := ob_e hf
  refine zr_aldI X hP hnI (zb_bk (j := 20) hB (by decide) rfl) hx1 dX5_countAgreed_8 ?_
  refine lv_aload_n hx hb dX5_countAgreed_9 rfl (lv_at hl 0 rfl) ?_
  refine gf_X5_28 X hnI hP (zb_b0 hB) dX5_countAgreed_10 ?_
  refine gf_X5_128 X hnI hP (zb_bk (j := 14) hB (by decide) rfl) dX5_countAgreed_13 ?_
  refine lv_iload_n hx hb dX5_countAgreed_16 rfl (lv_at hl 1 rfl) ?_
  obtain ⟨x2, hx2, hf⟩ := ob_e hf
  refine zr_aldI X hP hnI (zb_bk (j := 19) hB (by decide) rfl) hx2 dX5_countAgreed_17 ?_
  refine lv_iand hx hb dX5_countAgreed_18 ?_
  refine lv_istore_n (lv' := [(2, .int (x1 &&& x2)), (0, .ref (g.2.2 + b)), (1, .int a1)]) hx hb dX5_countAgreed_19 rfl hl (by decide) rfl (fun ls hl => ?_)
  refine lv_iconst (v := (0 : Int32)) hx hb dX5_countAgreed_20 (by decide) ?_
  refine lv_istore_n (lv' := [(3, .int (0 : Int32)), (2, .int (x1 &&& x2)), (0, .ref (g.2.2 + b)), (1, .int a1)]) hx hb dX5_countAgreed_21 rfl hl (by decide) rfl (fun ls hl => ?_)
  obtain ⟨I10, hI10, hf⟩ := ob_e hf
  have K3 : ∀ (H : Heap) (locs : List Loc) (ls : Array Slot), va_P g.1 vwCl (zb_ws g nc (zb_ce g I10 J O)) H → va_S (zb_A g) s.heap H locs → lv_has ls 5 [] → W p l e { frames := 1, cells := 0, slots := 0, locals := 21 } s m args below meth c H locs 0 0 (MQ below (zb_Po g nc (zb_ce g Iq J O) none) args s 0 0 (zb_A g)) (F0 m 109 ls []) := by
    intro H locs ls hP hS hl
    cases hf
    exact zr_vret X hr hP hS rfl dX5_countAgreed_109
  exact lpX5_countAgreed_L22 hnI l hB X hI10 K3 hP hS (lv_sub hl [0, 1, 2, 3] rfl)
set_option maxHeartbeats 4000000 in
set_option maxRecDepth 100000 in
theorem lpX5_trustAgain_L2 {g : zb_G} {nc : Nat} (hnI : 306 ≤ nc) (l : Launch) {b : Nat} (hB : zb_isB b) {J O : Mem} {p : Program} {e : Env} {s : State} {m : MethodId} {args : Array Value} {below : List Frame} {meth : Method} {c : Code} {Q : State → Prop} (X : zb_X g p m c cX5_trustAgain 2 s args RX5 meth) : ∀ {n9 : Nat} {a1 : Int32} {I : Mem} {Iz : Mem} {H : Heap} {locs : List Loc} {ls : Array Slot}, fX5_trustAgain_L2 b n9 a1 I = some Iz → (∀ (H : Heap) (locs : List Loc) (ls : Array Slot), va_P g.1 vwCl (zb_ws g nc (zb_ce g Iz J O)) H → va_S (zb_A g) s.heap H locs → lv_has ls 2 [] → W p l e { frames := 0, cells := 0, slots := 0, locals := 0 } s m args below meth c H locs 0 0 Q (F0 m 68 ls [])) → va_P g.1 vwCl (zb_ws g nc (zb_ce g I J O)) H → va_S (zb_A g) s.heap H locs → lv_has ls 2 [(1, .int a1), (0, .ref (g.2.2 + b))] → W p l e { frames := 0, cells := 0, slots := 0, locals := 0 } s m args below meth c H locs 0 0 Q (F0 m 2 ls []) := by
  have hx := X.1.1
  have hb := X.1.2.1
  have ho := X.1.2.2.2.1
  have hts := X.1.2.2.2.2
  have hZ := X.2.2.2
  intro n9
  induction n9 with
  | zero =>
    intro a1 I Iz H locs ls hf
    exact nomatch hf
  | succ n9 ih =>
    intro a1 I Iz H locs ls hf KK hP hS hl
    rw [fX5_trustAgain_L2] at hf
    refine lv_iload_n hx hb dX5_trustAgain_2 rfl (lv_at hl 0 rfl) ?_
    refine lv_aload_n hx hb dX5_trustAgain_3 rfl (lv_at hl 1 rfl) ?_
    refine gf_X5_12 X hnI hP (zb_b0 hB) dX5_trustAgain_4 ?_
    refine gf_X5_70 X hnI hP (zb_bk (j := 1) hB (by decide) rfl) dX5_trustAgain_7 ?_
    refine lv_icmp_ge (tgt := 68) hx hb dX5_trustAgain_10 (by decide) (fun hc => ?_) (fun hc => ?_)
    · have hf := if_t hc hf
      cases hf
      exact KK H locs ls hP hS (lv_sub hl [] rfl)
    · have hf := if_f hc hf
      refine lv_aload_n hx hb dX5_trustAgain_13 rfl (lv_at hl 1 rfl) ?_
      refine gf_X5_12 X hnI hP (zb_b0 hB) dX5_trustAgain_14 ?_
      refine gf_X5_161 X hnI hP (zb_bk (j := 1) hB (by decide) rfl) dX5_trustAgain_17 ?_
      refine lv_iload_n hx hb dX5_trustAgain_20 rfl (lv_at hl 0 rfl) ?_
      obtain ⟨x1, hx1, hf⟩ := ob_e hf
      refine zr_aldI X hP hnI (zb_bk (j := 6) hB (by decide) rfl) hx1 dX5_trustAgain_21 ?_
      refine lv_iconst (v := (1 : Int32)) hx hb dX5_trustAgain_22 (by decide) ?_
      obtain ⟨I5, ht, hf⟩ := ob_e hf
      have K1 : ∀ (H : Heap) (locs : List Loc) (ls : Array Slot), va_P g.1 vwCl (zb_ws g nc (zb_ce g I5 J O)) H → va_S (zb_A g) s.heap H locs → lv_has ls 2 [(1, .int a1), (0, .ref (g.2.2 + b))] → W p l e { frames := 0, cells := 0, slots := 0, locals := 0 } s m args below meth c H locs 0 0 Q (F0 m 62 ls []) := by
        intro H locs ls hP hS hl
        refine lv_iinc (v := (a1 + (1 : Int32))) (lv' := [(1, .int (a1 + (1 : Int32))), (0, .ref (g.2.2 + b))]) hx hb dX5_trustAgain_62 hl (k := 0) rfl rfl (by decide) rfl (fun ls hl => ?_)
        refine lv_goto (tgt := 2) hx hb dX5_trustAgain_65 (by decide) ?_
        exact ih hf KK hP hS (lv_sub hl [0, 1] rfl)
      have hf := ht
      refine lv_icmp_ne (tgt := 62) hx hb dX5_trustAgain_23 (by decide) (fun hc => ?_) (fun hc => ?_)
      · have hf := if_f hc hf
        cases hf
        exact K1 H locs ls hP hS (lv_sub hl [0, 1] rfl)
      · have hf := if_t hc hf
        refine lv_aload_n hx hb dX5_trustAgain_26 rfl (lv_at hl 1 rfl) ?_
        refine gf_X5_12 X hnI hP (zb_b0 hB) dX5_trustAgain_27 ?_
        refine gf_X5_155 X hnI hP (zb_bk (j := 1) hB (by decide) rfl) dX5_trustAgain_30 ?_
        refine lv_iload_n hx hb dX5_trustAgain_33 rfl (lv_at hl 0 rfl) ?_
        obtain ⟨x2, hx2, hf⟩ := ob_e hf
        refine zr_aldI X hP hnI (zb_bk (j := 8) hB (by decide) rfl) hx2 dX5_trustAgain_34 ?_
        refine lv_aload_n hx hb dX5_trustAgain_35 rfl (lv_at hl 1 rfl) ?_
        refine gf_X5_39 X hnI hP (zb_b0 hB) dX5_trustAgain_36 ?_
        refine lv_icmp_lt (tgt := 62) hx hb dX5_trustAgain_39 (by decide) (fun hc => ?_) (fun hc => ?_)
        · have hf := if_t hc hf
          cases hf
          exact K1 H locs ls hP hS (lv_sub hl [0, 1] rfl)
        · have hf := if_f hc hf
          refine lv_aload_n hx hb dX5_trustAgain_42 rfl (lv_at hl 1 rfl) ?_
          refine gf_X5_12 X hnI hP (zb_b0 hB) dX5_trustAgain_43 ?_
          refine gf_X5_161 X hnI hP (zb_bk (j := 1) hB (by decide) rfl) dX5_trustAgain_46 ?_
          refine lv_iload_n hx hb dX5_trustAgain_49 rfl (lv_at hl 0 rfl) ?_
          refine lv_iconst (v := (0 : Int32)) hx hb dX5_trustAgain_50 (by decide) ?_
          obtain ⟨I3, hI3, hf⟩ := ob_e hf
          refine zr_astI X hP hS hnI (zb_bk (j := 6) hB (by decide) rfl) hI3 dX5_trustAgain_51 (fun H locs hP hS => ?_)
          refine lv_aload_n hx hb dX5_trustAgain_52 rfl (lv_at hl 1 rfl) ?_
          refine gf_X5_12 X hnI hP (zb_b0 hB) dX5_trustAgain_53 ?_
          refine gf_X5_155 X hnI hP (zb_bk (j := 1) hB (by decide) rfl) dX5_trustAgain_56 ?_
          refine lv_iload_n hx hb dX5_trustAgain_59 rfl (lv_at hl 0 rfl) ?_
          refine lv_iconst (v := (0 : Int32)) hx hb dX5_trustAgain_60 (by decide) ?_
          obtain ⟨I4, hI4, hf⟩ := ob_e hf
          refine zr_astI X hP hS hnI (zb_bk (j := 8) hB (by decide) rfl) hI4 dX5_trustAgain_61 (fun H locs hP hS => ?_)
          cases hf
          exact K1 H locs ls hP hS (lv_sub hl [0, 1] rfl)
set_option maxHeartbeats 4000000 in
set_option maxRecDepth 100000 in
theorem ct_X5_trustAgain {g : zb_G} {nc : Nat} (hnI : 306 ≤ nc) (l : Launch) {b : Nat} (hB : zb_isB b) {I J O : Mem} {Iq : Mem} (hf : fX5_trustAgain b I = some Iq) : zb_Ct l g nc yX5_trustAgain cX5_trustAgain 2 none 0 0 [.ref (g.2.2 + b)] (zb_ce g I J O) none (zb_ce g Iq J O) := by
  refine zb_ofW (own := RX5) (by decide +kernel) rfl (Nat.le_of_ble_eq_true rfl) ?_
  intro p e s m args below meth c ls X hr hP hl
  have hx := X.1.1
  have hb := X.1.2.1
  have ho := X.1.2.2.2.1
  have hts := X.1.2.2.2.2
  have hZ := X.2.2.2
  have hl : lv_has ls 2 [(0, .ref (g.2.2 + b))] := hl
  have hS : va_S (zb_A g) s.heap s.heap [] := va_S.rf
  obtain ⟨H, hH⟩ : ∃ H, H = s.heap := ⟨_, rfl⟩
  obtain ⟨locs, hlocs⟩ : ∃ z : List Loc, z = [] := ⟨_, rfl⟩
  rw [← hH] at hP
  have hS : va_S (zb_A g) s.heap H locs := by rw [hH, hlocs]; exact hS
  show W p l e _ s m args below meth c s.heap [] 0 0 _ _
  rw [← hH, ← hlocs]
  rw [fX5_trustAgain] at hf
  refine lv_iconst (v := (0 : Int32)) hx hb dX5_trustAgain_0 (by decide) ?_
  refine lv_istore_n (lv' := [(1, .int (0 : Int32)), (0, .ref (g.2.2 + b))]) hx hb dX5_trustAgain_1 rfl hl (by decide) rfl (fun ls hl => ?_)
  obtain ⟨I6, hI6, hf⟩ := ob_e hf
  have K2 : ∀ (H : Heap) (locs : List Loc) (ls : Array Slot), va_P g.1 vwCl (zb_ws g nc (zb_ce g I6 J O)) H → va_S (zb_A g) s.heap H locs → lv_has ls 2 [] → W p l e { frames := 0, cells := 0, slots := 0, locals := 0 } s m args below meth c H locs 0 0 (MQ below (zb_Po g nc (zb_ce g Iq J O) none) args s 0 0 (zb_A g)) (F0 m 68 ls []) := by
    intro H locs ls hP hS hl
    cases hf
    exact zr_vret X hr hP hS rfl dX5_trustAgain_68
  exact lpX5_trustAgain_L2 hnI l hB X hI6 K2 hP hS (lv_sub hl [0, 1] rfl)
set_option maxHeartbeats 4000000 in
set_option maxRecDepth 100000 in
theorem lpX5_dragVoters_L4 {g : zb_G} {nc : Nat} (hnI : 306 ≤ nc) (l : Launch) {b : Nat} (hB : zb_isB b) {a1 : Int32} {J O : Mem} {p : Program} {e : Env} {s : State} {m : MethodId} {args : Array Value} {below : List Frame} {meth : Method} {c : Code} {Q : State → Prop} (X : zb_X g p m c cX5_dragVoters 4 s args RX5 meth) : ∀ {n9 : Nat} {a3 : Int32} {a2 : Int32} {I : Mem} {z2 : Int32} {Iz : Mem} {H : Heap} {locs : List Loc} {ls : Array Slot}, fX5_dragVoters_L4 b a1 n9 a3 a2 I = some (z2, Iz) → (∀ (H : Heap) (locs : List Loc) (ls : Array Slot), va_P g.1 vwCl (zb_ws g nc (zb_ce g Iz J O)) H → va_S (zb_A g) s.heap H locs → lv_has ls 4 [(2, .int z2)] → W p l e { frames := 1, cells := 0, slots := 0, locals := 21 } s m args below meth c H locs 0 0 Q (F0 m 69 ls [])) → va_P g.1 vwCl (zb_ws g nc (zb_ce g I J O)) H → va_S (zb_A g) s.heap H locs → lv_has ls 4 [(3, .int a3), (2, .int a2), (0, .ref (g.2.2 + b)), (1, .int a1)] → W p l e { frames := 1, cells := 0, slots := 0, locals := 21 } s m args below meth c H locs 0 0 Q (F0 m 4 ls []) := by
  have hx := X.1.1
  have hb := X.1.2.1
  have ho := X.1.2.2.2.1
  have hts := X.1.2.2.2.2
  have hZ := X.2.2.2
  intro n9
  induction n9 with
  | zero =>
    intro a3 a2 I z2 Iz H locs ls hf
    exact nomatch hf
  | succ n9 ih =>
    intro a3 a2 I z2 Iz H locs ls hf KK hP hS hl
    rw [fX5_dragVoters_L4] at hf
    refine lv_iload_n hx hb dX5_dragVoters_4 rfl (lv_at hl 0 rfl) ?_
    refine lv_aload_n hx hb dX5_dragVoters_5 rfl (lv_at hl 2 rfl) ?_
    refine gf_X5_12 X hnI hP (zb_b0 hB) dX5_dragVoters_6 ?_
    refine gf_X5_70 X hnI hP (zb_bk (j := 1) hB (by decide) rfl) dX5_dragVoters_9 ?_
    refine lv_icmp_ge (tgt := 69) hx hb dX5_dragVoters_12 (by decide) (fun hc => ?_) (fun hc => ?_)
    · have hf := if_t hc hf
      cases hf
      exact KK H locs ls hP hS (lv_sub hl [1] rfl)
    · have hf := if_f hc hf
      refine lv_aload_n hx hb dX5_dragVoters_15 rfl (lv_at hl 2 rfl) ?_
      refine gf_X5_28 X hnI hP (zb_b0 hB) dX5_dragVoters_16 ?_
      refine gf_X5_100 X hnI hP (zb_bk (j := 14) hB (by decide) rfl) dX5_dragVoters_19 ?_
      refine lv_iload_n hx hb dX5_dragVoters_22 rfl (lv_at hl 3 rfl) ?_
      obtain ⟨x1, hx1, hf⟩ := ob_e hf
      refine zr_aldI X hP hnI (zb_bk (j := 15) hB (by decide) rfl) hx1 dX5_dragVoters_23 ?_
      refine lv_iload_n hx hb dX5_dragVoters_24 rfl (lv_at hl 0 rfl) ?_
      obtain ⟨x2, hx2, hf⟩ := ob_e hf
      refine zr_cNi (rest := []) (As := [.int x1, .int a3]) X hP hS (ct_X7_has (g := g) (nc := nc) (I := I) (J := J) (O := O)  l  hx2) cw_X5_145  rfl hl.1 (Nat.le_of_ble_eq_true rfl) ⟨Nat.le_of_ble_eq_true rfl, Nat.le_of_ble_eq_true rfl⟩ ⟨Nat.le_of_ble_eq_true rfl, Nat.le_of_ble_eq_true rfl⟩ dX5_dragVoters_25 rfl (fun H locs hP hS => ?_)
      obtain ⟨x5, I6, ht, hf⟩ := ob2_e hf
      have K1 : ∀ (H : Heap) (locs : List Loc) (ls : Array Slot), va_P g.1 vwCl (zb_ws g nc (zb_ce g I6 J O)) H → va_S (zb_A g) s.heap H locs → lv_has ls 4 [(3, .int a3), (2, .int x5), (0, .ref (g.2.2 + b)), (1, .int a1)] → W p l e { frames := 1, cells := 0, slots := 0, locals := 21 } s m args below meth c H locs 0 0 Q (F0 m 63 ls []) := by
        intro H locs ls hP hS hl
        refine lv_iinc (v := (a3 + (1 : Int32))) (lv' := [(3, .int (a3 + (1 : Int32))), (2, .int x5), (0, .ref (g.2.2 + b)), (1, .int a1)]) hx hb dX5_dragVoters_63 hl (k := 0) rfl rfl (by decide) rfl (fun ls hl => ?_)
        refine lv_goto (tgt := 4) hx hb dX5_dragVoters_66 (by decide) ?_
        exact ih hf KK hP hS (lv_sub hl [0, 1, 2, 3] rfl)
      have hf := ht
      refine lv_if_eq (tgt := 63) hx hb dX5_dragVoters_28 (by decide) (fun hc => ?_) (fun hc => ?_)
      · have hf := if_t hc hf
        cases hf
        exact K1 H locs ls hP hS (lv_sub hl [0, 1, 2, 3] rfl)
      · have hf := if_f hc hf
        refine lv_aload_n hx hb dX5_dragVoters_31 rfl (lv_at hl 2 rfl) ?_
        refine gf_X5_12 X hnI hP (zb_b0 hB) dX5_dragVoters_32 ?_
        refine gf_X5_149 X hnI hP (zb_bk (j := 1) hB (by decide) rfl) dX5_dragVoters_35 ?_
        refine lv_iload_n hx hb dX5_dragVoters_38 rfl (lv_at hl 0 rfl) ?_
        obtain ⟨x3, hx3, hf⟩ := ob_e hf
        refine zr_aldI X hP hnI (zb_bk (j := 7) hB (by decide) rfl) hx3 dX5_dragVoters_39 ?_
        refine lv_aload_n hx hb dX5_dragVoters_40 rfl (lv_at hl 2 rfl) ?_
        refine gf_X5_36 X hnI hP (zb_b0 hB) dX5_dragVoters_41 ?_
        refine lv_icmp_lt (tgt := 63) hx hb dX5_dragVoters_44 (by decide) (fun hc => ?_) (fun hc => ?_)
        · have hf := if_t hc hf
          cases hf
          exact K1 H locs ls hP hS (lv_sub hl [0, 1, 2, 3] rfl)
        · have hf := if_f hc hf
          refine lv_aload_n hx hb dX5_dragVoters_47 rfl (lv_at hl 2 rfl) ?_
          refine gf_X5_12 X hnI hP (zb_b0 hB) dX5_dragVoters_48 ?_
          refine gf_X5_161 X hnI hP (zb_bk (j := 1) hB (by decide) rfl) dX5_dragVoters_51 ?_
          refine lv_iload_n hx hb dX5_dragVoters_54 rfl (lv_at hl 0 rfl) ?_
          refine lv_iconst (v := (2 : Int32)) hx hb dX5_dragVoters_55 (by decide) ?_
          obtain ⟨I4, hI4, hf⟩ := ob_e hf
          refine zr_astI X hP hS hnI (zb_bk (j := 6) hB (by decide) rfl) hI4 dX5_dragVoters_56 (fun H locs hP hS => ?_)
          refine lv_iload_n hx hb dX5_dragVoters_57 rfl (lv_at hl 1 rfl) ?_
          refine lv_iconst (v := (1 : Int32)) hx hb dX5_dragVoters_58 (by decide) ?_
          refine lv_iload_n hx hb dX5_dragVoters_59 rfl (lv_at hl 0 rfl) ?_
          refine lv_ishl hx hb dX5_dragVoters_60 ?_
          refine lv_ior hx hb dX5_dragVoters_61 ?_
          refine lv_istore_n (lv' := [(2, .int (a2 ||| ((1 : Int32) <<< (a3 &&& 31)))), (3, .int a3), (0, .ref (g.2.2 + b)), (1, .int a1)]) hx hb dX5_dragVoters_62 rfl hl (by decide) rfl (fun ls hl => ?_)
          cases hf
          exact K1 H locs ls hP hS (lv_sub hl [1, 0, 2, 3] rfl)
set_option maxHeartbeats 4000000 in
set_option maxRecDepth 100000 in
theorem ct_X5_dragVoters {g : zb_G} {nc : Nat} (hnI : 306 ≤ nc) (l : Launch) {b : Nat} (hB : zb_isB b) {a1 : Int32} {I J O : Mem} {r9 : Int32} {Iq : Mem} (hf : fX5_dragVoters b a1 I = some (r9, Iq)) : zb_Ct l g nc yX5_dragVoters cX5_dragVoters 4 (some .int) 1 21 [.ref (g.2.2 + b), .int a1] (zb_ce g I J O) (some (.int r9)) (zb_ce g Iq J O) := by
  refine zb_ofW (own := RX5) (by decide +kernel) rfl (Nat.le_of_ble_eq_true rfl) ?_
  intro p e s m args below meth c ls X hr hP hl
  have hx := X.1.1
  have hb := X.1.2.1
  have ho := X.1.2.2.2.1
  have hts := X.1.2.2.2.2
  have hZ := X.2.2.2
  have hl : lv_has ls 4 [(0, .ref (g.2.2 + b)), (1, .int a1)] := hl
  have hS : va_S (zb_A g) s.heap s.heap [] := va_S.rf
  obtain ⟨H, hH⟩ : ∃ H, H = s.heap := ⟨_, rfl⟩
  obtain ⟨locs, hlocs⟩ : ∃ z : List Loc, z = [] := ⟨_, rfl⟩
  rw [← hH] at hP
  have hS : va_S (zb_A g) s.heap H locs := by rw [hH, hlocs]; exact hS
  show W p l e _ s m args below meth c s.heap [] 0 0 _ _
  rw [← hH, ← hlocs]
  rw [fX5_dragVoters] at hf
  refine lv_iconst (v := (0 : Int32)) hx hb dX5_dragVoters_0 (by decide) ?_
  refine lv_istore_n (lv' := [(2, .int (0 : Int32)), (0, .ref (g.2.2 + b)), (1, .int a1)]) hx hb dX5_dragVoters_1 rfl hl (by decide) rfl (fun ls hl => ?_)
  refine lv_iconst (v := (0 : Int32)) hx hb dX5_dragVoters_2 (by decide) ?_
  refine lv_istore_n (lv' := [(3, .int (0 : Int32)), (2, .int (0 : Int32)), (0, .ref (g.2.2 + b)), (1, .int a1)]) hx hb dX5_dragVoters_3 rfl hl (by decide) rfl (fun ls hl => ?_)
  obtain ⟨x7, I8, hx7_I8, hf⟩ := ob2_e hf
  have K2 : ∀ (H : Heap) (locs : List Loc) (ls : Array Slot), va_P g.1 vwCl (zb_ws g nc (zb_ce g I8 J O)) H → va_S (zb_A g) s.heap H locs → lv_has ls 4 [(2, .int x7)] → W p l e { frames := 1, cells := 0, slots := 0, locals := 21 } s m args below meth c H locs 0 0 (MQ below (zb_Po g nc (zb_ce g Iq J O) (some (.int r9))) args s 0 0 (zb_A g)) (F0 m 69 ls []) := by
    intro H locs ls hP hS hl
    refine lv_iload_n hx hb dX5_dragVoters_69 rfl (lv_at hl 0 rfl) ?_
    cases hf
    exact zr_iret X hr hP hS dX5_dragVoters_70
  exact lpX5_dragVoters_L4 hnI l hB X hx7_I8 K2 hP hS (lv_sub hl [0, 1, 2, 3] rfl)
set_option maxHeartbeats 4000000 in
set_option maxRecDepth 100000 in
theorem lpX5_draggedSince_L5 {g : zb_G} {nc : Nat} (hnI : 306 ≤ nc) (l : Launch) {b : Nat} (hB : zb_isB b) {a1 : Int32} {a2 : Int32} {J O : Mem} {p : Program} {e : Env} {s : State} {m : MethodId} {args : Array Value} {below : List Frame} {meth : Method} {c : Code} {Q : State → Prop} (X : zb_X g p m c cX5_draggedSince 5 s args RX5 meth) : ∀ {n9 : Nat} {a4 : Int32} {a3 : Int32} {I : Mem} {z3 : Int32} {H : Heap} {locs : List Loc} {ls : Array Slot}, fX5_draggedSince_L5 b a1 a2 n9 a4 a3 I = some z3 → (∀ (H : Heap) (locs : List Loc) (ls : Array Slot), va_P g.1 vwCl (zb_ws g nc (zb_ce g I J O)) H → va_S (zb_A g) s.heap H locs → lv_has ls 5 [(3, .int z3)] → W p l e { frames := 1, cells := 0, slots := 0, locals := 21 } s m args below meth c H locs 0 0 Q (F0 m 53 ls [])) → va_P g.1 vwCl (zb_ws g nc (zb_ce g I J O)) H → va_S (zb_A g) s.heap H locs → lv_has ls 5 [(4, .int a4), (3, .int a3), (0, .ref (g.2.2 + b)), (1, .int a1), (2, .int a2)] → W p l e { frames := 1, cells := 0, slots := 0, locals := 21 } s m args below meth c H locs 0 0 Q (F0 m 5 ls []) := by
  have hx := X.1.1
  have hb := X.1.2.1
  have ho := X.1.2.2.2.1
  have hts := X.1.2.2.2.2
  have hZ := X.2.2.2
  intro n9
  induction n9 with
  | zero =>
    intro a4 a3 I z3 H locs ls hf
    exact nomatch hf
  | succ n9 ih =>
    intro a4 a3 I z3 H locs ls hf KK hP hS hl
    rw [fX5_draggedSince_L5] at hf
    refine lv_iload hx hb dX5_draggedSince_5 (lv_at hl 0 rfl) ?_
    refine lv_aload_n hx hb dX5_draggedSince_7 rfl (lv_at hl 2 rfl) ?_
    refine gf_X5_12 X hnI hP (zb_b0 hB) dX5_draggedSince_8 ?_
    refine gf_X5_70 X hnI hP (zb_bk (j := 1) hB (by decide) rfl) dX5_draggedSince_11 ?_
    refine lv_icmp_ge (tgt := 53) hx hb dX5_draggedSince_14 (by decide) (fun hc => ?_) (fun hc => ?_)
    · have hf := if_t hc hf
      cases hf
      exact KK H locs ls hP hS (lv_sub hl [1] rfl)
    · have hf := if_f hc hf
      refine lv_iload_n hx hb dX5_draggedSince_17 rfl (lv_at hl 3 rfl) ?_
      refine lv_iload hx hb dX5_draggedSince_18 (lv_at hl 0 rfl) ?_
      obtain ⟨x1, hx1, hf⟩ := ob_e hf
      refine zr_cNi (rest := []) (As := [.int a1, .int a4]) X hP hS (ct_X7_has (g := g) (nc := nc) (I := I) (J := J) (O := O)  l  hx1) cw_X5_145  rfl hl.1 (Nat.le_of_ble_eq_true rfl) ⟨Nat.le_of_ble_eq_true rfl, Nat.le_of_ble_eq_true rfl⟩ ⟨Nat.le_of_ble_eq_true rfl, Nat.le_of_ble_eq_true rfl⟩ dX5_draggedSince_20 rfl (fun H locs hP hS => ?_)
      obtain ⟨x3, ht, hf⟩ := ob_e hf
      have K1 : ∀ (H : Heap) (locs : List Loc) (ls : Array Slot), va_P g.1 vwCl (zb_ws g nc (zb_ce g I J O)) H → va_S (zb_A g) s.heap H locs → lv_has ls 5 [(4, .int a4), (3, .int x3), (0, .ref (g.2.2 + b)), (1, .int a1), (2, .int a2)] → W p l e { frames := 1, cells := 0, slots := 0, locals := 21 } s m args below meth c H locs 0 0 Q (F0 m 47 ls []) := by
        intro H locs ls hP hS hl
        refine lv_iinc (v := (a4 + (1 : Int32))) (lv' := [(4, .int (a4 + (1 : Int32))), (3, .int x3), (0, .ref (g.2.2 + b)), (1, .int a1), (2, .int a2)]) hx hb dX5_draggedSince_47 hl (k := 0) rfl rfl (by decide) rfl (fun ls hl => ?_)
        refine lv_goto (tgt := 5) hx hb dX5_draggedSince_50 (by decide) ?_
        exact ih hf KK hP hS (lv_sub hl [0, 1, 2, 3, 4] rfl)
      have hf := ht
      refine lv_if_eq (tgt := 47) hx hb dX5_draggedSince_23 (by decide) (fun hc => ?_) (fun hc => ?_)
      · have hf := if_t hc hf
        cases hf
        exact K1 H locs ls hP hS (lv_sub hl [0, 1, 2, 3, 4] rfl)
      · have hf := if_f hc hf
        refine lv_aload_n hx hb dX5_draggedSince_26 rfl (lv_at hl 2 rfl) ?_
        refine gf_X5_12 X hnI hP (zb_b0 hB) dX5_draggedSince_27 ?_
        refine gf_X5_152 X hnI hP (zb_bk (j := 1) hB (by decide) rfl) dX5_draggedSince_30 ?_
        refine lv_iload hx hb dX5_draggedSince_33 (lv_at hl 0 rfl) ?_
        obtain ⟨x2, hx2, hf⟩ := ob_e hf
        refine zr_aldI X hP hnI (zb_bk (j := 9) hB (by decide) rfl) hx2 dX5_draggedSince_35 ?_
        refine lv_iload_n hx hb dX5_draggedSince_36 rfl (lv_at hl 4 rfl) ?_
        refine lv_icmp_gt (tgt := 47) hx hb dX5_draggedSince_37 (by decide) (fun hc => ?_) (fun hc => ?_)
        · have hf := if_t hc hf
          cases hf
          exact K1 H locs ls hP hS (lv_sub hl [0, 1, 2, 3, 4] rfl)
        · have hf := if_f hc hf
          refine lv_iload_n hx hb dX5_draggedSince_40 rfl (lv_at hl 1 rfl) ?_
          refine lv_iconst (v := (1 : Int32)) hx hb dX5_draggedSince_41 (by decide) ?_
          refine lv_iload hx hb dX5_draggedSince_42 (lv_at hl 0 rfl) ?_
          refine lv_ishl hx hb dX5_draggedSince_44 ?_
          refine lv_ior hx hb dX5_draggedSince_45 ?_
          refine lv_istore_n (lv' := [(3, .int (a3 ||| ((1 : Int32) <<< (a4 &&& 31)))), (4, .int a4), (0, .ref (g.2.2 + b)), (1, .int a1), (2, .int a2)]) hx hb dX5_draggedSince_46 rfl hl (by decide) rfl (fun ls hl => ?_)
          cases hf
          exact K1 H locs ls hP hS (lv_sub hl [1, 0, 2, 3, 4] rfl)
set_option maxHeartbeats 4000000 in
set_option maxRecDepth 100000 in
theorem ct_X5_draggedSince {g : zb_G} {nc : Nat} (hnI : 306 ≤ nc) (l : Launch) {b : Nat} (hB : zb_isB b) {a1 : Int32} {a2 : Int32} {I J O : Mem} {r9 : Int32} (hf : fX5_draggedSince b a1 a2 I = some r9) : zb_Ct l g nc yX5_draggedSince cX5_draggedSince 5 (some .int) 1 21 [.ref (g.2.2 + b), .int a1, .int a2] (zb_ce g I J O) (some (.int r9)) (zb_ce g I J O) := by
  refine zb_ofW (own := RX5) (by decide +kernel) rfl (Nat.le_of_ble_eq_true rfl) ?_
  intro p e s m args below meth c ls X hr hP hl
  have hx := X.1.1
  have hb := X.1.2.1
  have ho := X.1.2.2.2.1
  have hts := X.1.2.2.2.2
  have hZ := X.2.2.2
  have hl : lv_has ls 5 [(0, .ref (g.2.2 + b)), (1, .int a1), (2, .int a2)] := hl
  have hS : va_S (zb_A g) s.heap s.heap [] := va_S.rf
  obtain ⟨H, hH⟩ : ∃ H, H = s.heap := ⟨_, rfl⟩
  obtain ⟨locs, hlocs⟩ : ∃ z : List Loc, z = [] := ⟨_, rfl⟩
  rw [← hH] at hP
  have hS : va_S (zb_A g) s.heap H locs := by rw [hH, hlocs]; exact hS
  show W p l e _ s m args below meth c s.heap [] 0 0 _ _
  rw [← hH, ← hlocs]
  rw [fX5_draggedSince] at hf
  refine lv_iconst (v := (0 : Int32)) hx hb dX5_draggedSince_0 (by decide) ?_
  refine lv_istore_n (lv' := [(3, .int (0 : Int32)), (0, .ref (g.2.2 + b)), (1, .int a1), (2, .int a2)]) hx hb dX5_draggedSince_1 rfl hl (by decide) rfl (fun ls hl => ?_)
  refine lv_iconst (v := (0 : Int32)) hx hb dX5_draggedSince_2 (by decide) ?_
  refine lv_istore (lv' := [(4, .int (0 : Int32)), (3, .int (0 : Int32)), (0, .ref (g.2.2 + b)), (1, .int a1), (2, .int a2)]) hx hb dX5_draggedSince_3 hl (by decide) rfl (fun ls hl => ?_)
  obtain ⟨x4, hx4, hf⟩ := ob_e hf
  have K2 : ∀ (H : Heap) (locs : List Loc) (ls : Array Slot), va_P g.1 vwCl (zb_ws g nc (zb_ce g I J O)) H → va_S (zb_A g) s.heap H locs → lv_has ls 5 [(3, .int x4)] → W p l e { frames := 1, cells := 0, slots := 0, locals := 21 } s m args below meth c H locs 0 0 (MQ below (zb_Po g nc (zb_ce g I J O) (some (.int r9))) args s 0 0 (zb_A g)) (F0 m 53 ls []) := by
    intro H locs ls hP hS hl
    refine lv_iload_n hx hb dX5_draggedSince_53 rfl (lv_at hl 0 rfl) ?_
    cases hf
    exact zr_iret X hr hP hS dX5_draggedSince_54
  exact lpX5_draggedSince_L5 hnI l hB X hx4 K2 hP hS (lv_sub hl [0, 1, 2, 3, 4] rfl)
set_option maxHeartbeats 4000000 in
set_option maxRecDepth 100000 in
theorem lpX5_takeOut_L5 {g : zb_G} {nc : Nat} (hnI : 306 ≤ nc) (l : Launch) {b : Nat} (hB : zb_isB b) {a1 : Int32} {J O : Mem} {p : Program} {e : Env} {s : State} {m : MethodId} {args : Array Value} {below : List Frame} {meth : Method} {c : Code} {Q : State → Prop} (X : zb_X g p m c cX5_takeOut 6 s args RX5 meth) : ∀ {n9 : Nat} {a3 : Int32} {I : Mem} {Iz : Mem} {H : Heap} {locs : List Loc} {ls : Array Slot}, fX5_takeOut_L5 b a1 n9 a3 I = some Iz → (∀ (H : Heap) (locs : List Loc) (ls : Array Slot), va_P g.1 vwCl (zb_ws g nc (zb_ce g Iz J O)) H → va_S (zb_A g) s.heap H locs → lv_has ls 6 [] → W p l e { frames := 4, cells := 0, slots := 0, locals := 96 } s m args below meth c H locs 0 0 Q (F0 m 99 ls [])) → va_P g.1 vwCl (zb_ws g nc (zb_ce g I J O)) H → va_S (zb_A g) s.heap H locs → lv_has ls 6 [(3, .int a3), (0, .ref (g.2.2 + b)), (1, .int a1), (2, .ref (g.2.2 + 52))] → W p l e { frames := 4, cells := 0, slots := 0, locals := 96 } s m args below meth c H locs 0 0 Q (F0 m 5 ls []) := by
  have hx := X.1.1
  have hb := X.1.2.1
  have ho := X.1.2.2.2.1
  have hts := X.1.2.2.2.2
  have hZ := X.2.2.2
  intro n9
  induction n9 with
  | zero =>
    intro a3 I Iz H locs ls hf
    exact nomatch hf
  | succ n9 ih =>
    intro a3 I Iz H locs ls hf KK hP hS hl
    rw [fX5_takeOut_L5] at hf
    refine lv_iload_n hx hb dX5_takeOut_5 rfl (lv_at hl 0 rfl) ?_
    refine lv_aload_n hx hb dX5_takeOut_6 rfl (lv_at hl 1 rfl) ?_
    refine gf_X5_45 X hnI hP (zb_b0 hB) dX5_takeOut_7 ?_
    refine lv_icmp_ge (tgt := 99) hx hb dX5_takeOut_10 (by decide) (fun hc => ?_) (fun hc => ?_)
    · have hf := if_t hc hf
      cases hf
      exact KK H locs ls hP hS (lv_sub hl [] rfl)
    · have hf := if_f hc hf
      refine lv_aload_n hx hb dX5_takeOut_13 rfl (lv_at hl 1 rfl) ?_
      refine lv_iload_n hx hb dX5_takeOut_14 rfl (lv_at hl 0 rfl) ?_
      obtain ⟨x2, hx2, hf⟩ := ob_e hf
      refine zr_cVi (rest := []) (As := [.int a3]) X hP hS (ct_X5_rowOf (g := g) (nc := nc) (I := I) (J := J) (O := O)  l hB hx2) cw_X5_120 (zr_recv X hP (Nat.lt_of_lt_of_le ((zb_b0 hB)).1 hnI) (zb_ceIo (zb_b0 hB) (by decide)) rfl) rfl hl.1 (Nat.le_of_ble_eq_true rfl) ⟨Nat.le_of_ble_eq_true rfl, Nat.le_of_ble_eq_true rfl⟩ ⟨Nat.le_of_ble_eq_true rfl, Nat.le_of_ble_eq_true rfl⟩ dX5_takeOut_15 rfl (fun H locs hP hS => ?_)
      refine lv_istore (lv' := [(4, .int x2), (3, .int a3), (0, .ref (g.2.2 + b)), (1, .int a1), (2, .ref (g.2.2 + 52))]) hx hb dX5_takeOut_18 hl (by decide) rfl (fun ls hl => ?_)
      refine lv_aload_n hx hb dX5_takeOut_20 rfl (lv_at hl 2 rfl) ?_
      refine gf_X5_28 X hnI hP (zb_b0 hB) dX5_takeOut_21 ?_
      refine gf_X5_100 X hnI hP (zb_bk (j := 14) hB (by decide) rfl) dX5_takeOut_24 ?_
      refine lv_iload hx hb dX5_takeOut_27 (lv_at hl 0 rfl) ?_
      obtain ⟨x3, hx3, hf⟩ := ob_e hf
      refine zr_aldI X hP hnI (zb_bk (j := 15) hB (by decide) rfl) hx3 dX5_takeOut_29 ?_
      refine lv_aload_n hx hb dX5_takeOut_30 rfl (lv_at hl 2 rfl) ?_
      refine lv_iload_n hx hb dX5_takeOut_31 rfl (lv_at hl 3 rfl) ?_
      refine lv_iload_n hx hb dX5_takeOut_32 rfl (lv_at hl 1 rfl) ?_
      obtain ⟨x4, hx4, hf⟩ := ob_e hf
      refine zr_cVi (rest := [.int x3]) (As := [.int a1, .int a3]) X hP hS (ct_X5_draggedSince (g := g) (nc := nc) (I := I) (J := J) (O := O) hnI l hB hx4) cw_X5_168 (zr_recv X hP (Nat.lt_of_lt_of_le ((zb_b0 hB)).1 hnI) (zb_ceIo (zb_b0 hB) (by decide)) rfl) rfl hl.1 (Nat.le_of_ble_eq_true rfl) ⟨Nat.le_of_ble_eq_true rfl, Nat.le_of_ble_eq_true rfl⟩ ⟨Nat.le_of_ble_eq_true rfl, Nat.le_of_ble_eq_true rfl⟩ dX5_takeOut_33 rfl (fun H locs hP hS => ?_)
      refine lv_iand hx hb dX5_takeOut_36 ?_
      refine lv_istore (lv' := [(5, .int (x3 &&& x4)), (4, .int x2), (3, .int a3), (0, .ref (g.2.2 + b)), (1, .int a1), (2, .ref (g.2.2 + 52))]) hx hb dX5_takeOut_37 hl (by decide) rfl (fun ls hl => ?_)
      refine lv_iload hx hb dX5_takeOut_39 (lv_at hl 0 rfl) ?_
      obtain ⟨I10, ht, hf⟩ := ob_e hf
      have K1 : ∀ (H : Heap) (locs : List Loc) (ls : Array Slot), va_P g.1 vwCl (zb_ws g nc (zb_ce g I10 J O)) H → va_S (zb_A g) s.heap H locs → lv_has ls 6 [(3, .int a3), (0, .ref (g.2.2 + b)), (1, .int a1), (2, .ref (g.2.2 + 52))] → W p l e { frames := 4, cells := 0, slots := 0, locals := 96 } s m args below meth c H locs 0 0 Q (F0 m 93 ls []) := by
        intro H locs ls hP hS hl
        refine lv_iinc (v := (a3 + (1 : Int32))) (lv' := [(3, .int (a3 + (1 : Int32))), (0, .ref (g.2.2 + b)), (1, .int a1), (2, .ref (g.2.2 + 52))]) hx hb dX5_takeOut_93 hl (k := 0) rfl rfl (by decide) rfl (fun ls hl => ?_)
        refine lv_goto (tgt := 5) hx hb dX5_takeOut_96 (by decide) ?_
        exact ih hf KK hP hS (lv_sub hl [0, 1, 2, 3] rfl)
      have hf := ht
      refine lv_if_eq (tgt := 93) hx hb dX5_takeOut_41 (by decide) (fun hc => ?_) (fun hc => ?_)
      · have hf := if_t hc hf
        cases hf
        exact K1 H locs ls hP hS (lv_sub hl [2, 3, 4, 5] rfl)
      · have hf := if_f hc hf
        refine lv_aload_n hx hb dX5_takeOut_44 rfl (lv_at hl 3 rfl) ?_
        refine gf_X5_28 X hnI hP (zb_b0 hB) dX5_takeOut_45 ?_
        refine gf_X5_100 X hnI hP (zb_bk (j := 14) hB (by decide) rfl) dX5_takeOut_48 ?_
        refine lv_iload hx hb dX5_takeOut_51 (lv_at hl 1 rfl) ?_
        refine lv_dup2_11 hx hb dX5_takeOut_53 rfl rfl ?_
        obtain ⟨x5, hx5, hf⟩ := ob_e hf
        refine zr_aldI X hP hnI (zb_bk (j := 15) hB (by decide) rfl) hx5 dX5_takeOut_54 ?_
        refine lv_iload hx hb dX5_takeOut_55 (lv_at hl 0 rfl) ?_
        refine lv_iconst (v := (-1 : Int32)) hx hb dX5_takeOut_57 (by decide) ?_
        refine lv_ixor hx hb dX5_takeOut_58 ?_
        refine lv_iand hx hb dX5_takeOut_59 ?_
        obtain ⟨I6, hI6, hf⟩ := ob_e hf
        refine zr_astI X hP hS hnI (zb_bk (j := 15) hB (by decide) rfl) hI6 dX5_takeOut_60 (fun H locs hP hS => ?_)
        refine lv_aload_n hx hb dX5_takeOut_61 rfl (lv_at hl 3 rfl) ?_
        refine gf_X5_28 X hnI hP (zb_b0 hB) dX5_takeOut_62 ?_
        refine gf_X5_142 X hnI hP (zb_bk (j := 14) hB (by decide) rfl) dX5_takeOut_65 ?_
        refine lv_iload hx hb dX5_takeOut_68 (lv_at hl 1 rfl) ?_
        refine lv_dup2_11 hx hb dX5_takeOut_70 rfl rfl ?_
        obtain ⟨x7, hx7, hf⟩ := ob_e hf
        refine zr_aldI X hP hnI (zb_bk (j := 22) hB (by decide) rfl) hx7 dX5_takeOut_71 ?_
        refine lv_iload hx hb dX5_takeOut_72 (lv_at hl 0 rfl) ?_
        refine lv_ior hx hb dX5_takeOut_74 ?_
        obtain ⟨I8, hI8, hf⟩ := ob_e hf
        refine zr_astI X hP hS hnI (zb_bk (j := 22) hB (by decide) rfl) hI8 dX5_takeOut_75 (fun H locs hP hS => ?_)
        refine lv_aload_n hx hb dX5_takeOut_76 rfl (lv_at hl 3 rfl) ?_
        refine lv_iload hx hb dX5_takeOut_77 (lv_at hl 1 rfl) ?_
        refine lv_aload_n hx hb dX5_takeOut_79 rfl (lv_at hl 5 rfl) ?_
        obtain ⟨I9, hI9, hf⟩ := ob_e hf
        refine zr_cVv (rest := []) (As := [.int x2, .ref (g.2.2 + 52)]) X hP hS (ct_X5_tellLevel (g := g) (nc := nc) (I := I8) (J := J) (O := O) hnI l hB hI9) cw_X5_171 (zr_recv X hP (Nat.lt_of_lt_of_le ((zb_b0 hB)).1 hnI) (zb_ceIo (zb_b0 hB) (by decide)) rfl) rfl hl.1 (Nat.le_of_ble_eq_true rfl) ⟨Nat.le_of_ble_eq_true rfl, Nat.le_of_ble_eq_true rfl⟩ ⟨Nat.le_of_ble_eq_true rfl, Nat.le_of_ble_eq_true rfl⟩ dX5_takeOut_80 rfl (fun H locs hP hS => ?_)
        refine lv_aload_n hx hb dX5_takeOut_83 rfl (lv_at hl 3 rfl) ?_
        refine lv_dup hx hb dX5_takeOut_84 rfl ?_
        refine gf_X5_51 X hnI hP (zb_b0 hB) dX5_takeOut_85 ?_
        refine lv_iconst (v := (1 : Int32)) hx hb dX5_takeOut_88 (by decide) ?_
        refine lv_iadd hx hb dX5_takeOut_89 ?_
        refine pf_X5_51 X hnI hP hS (zb_b0 hB) dX5_takeOut_90 (fun H locs hP hS => ?_)
        cases hf
        exact K1 H locs ls hP hS (lv_sub hl [2, 3, 4, 5] rfl)
set_option maxHeartbeats 4000000 in
set_option maxRecDepth 100000 in
theorem ct_X5_takeOut {g : zb_G} {nc : Nat} (hnI : 306 ≤ nc) (l : Launch) {b : Nat} (hB : zb_isB b) {a1 : Int32} {I J O : Mem} {Iq : Mem} (hf : fX5_takeOut b a1 I = some Iq) : zb_Ct l g nc yX5_takeOut cX5_takeOut 6 none 4 96 [.ref (g.2.2 + b), .int a1, .ref (g.2.2 + 52)] (zb_ce g I J O) none (zb_ce g Iq J O) := by
  refine zb_ofW (own := RX5) (by decide +kernel) rfl (Nat.le_of_ble_eq_true rfl) ?_
  intro p e s m args below meth c ls X hr hP hl
  have hx := X.1.1
  have hb := X.1.2.1
  have ho := X.1.2.2.2.1
  have hts := X.1.2.2.2.2
  have hZ := X.2.2.2
  have hl : lv_has ls 6 [(0, .ref (g.2.2 + b)), (1, .int a1), (2, .ref (g.2.2 + 52))] := hl
  have hS : va_S (zb_A g) s.heap s.heap [] := va_S.rf
  obtain ⟨H, hH⟩ : ∃ H, H = s.heap := ⟨_, rfl⟩
  obtain ⟨locs, hlocs⟩ : ∃ z : List Loc, z = [] := ⟨_, rfl⟩
  rw [← hH] at hP
  have hS : va_S (zb_A g) s.heap H locs := by rw [hH, hlocs]; exact hS
  show W p l e _ s m args below meth c s.heap [] 0 0 _ _
  rw [← hH, ← hlocs]
  rw [fX5_takeOut] at hf
  refine lv_aload_n hx hb dX5_takeOut_0 rfl (lv_at hl 0 rfl) ?_
  obtain ⟨x1, hx1, hf⟩ := ob_e hf
  refine zr_cVi (rest := []) (As := []) X hP hS (ct_X5_firstKept (g := g) (nc := nc) (I := I) (J := J) (O := O) hnI l hB hx1) cw_X5_164 (zr_recv X hP (Nat.lt_of_lt_of_le ((zb_b0 hB)).1 hnI) (zb_ceIo (zb_b0 hB) (by decide)) rfl) rfl hl.1 (Nat.le_of_ble_eq_true rfl) ⟨Nat.le_of_ble_eq_true rfl, Nat.le_of_ble_eq_true rfl⟩ ⟨Nat.le_of_ble_eq_true rfl, Nat.le_of_ble_eq_true rfl⟩ dX5_takeOut_1 rfl (fun H locs hP hS => ?_)
  refine lv_istore_n (lv' := [(3, .int x1), (0, .ref (g.2.2 + b)), (1, .int a1), (2, .ref (g.2.2 + 52))]) hx hb dX5_takeOut_4 rfl hl (by decide) rfl (fun ls hl => ?_)
  obtain ⟨I11, hI11, hf⟩ := ob_e hf
  have K2 : ∀ (H : Heap) (locs : List Loc) (ls : Array Slot), va_P g.1 vwCl (zb_ws g nc (zb_ce g I11 J O)) H → va_S (zb_A g) s.heap H locs → lv_has ls 6 [] → W p l e { frames := 4, cells := 0, slots := 0, locals := 96 } s m args below meth c H locs 0 0 (MQ below (zb_Po g nc (zb_ce g Iq J O) none) args s 0 0 (zb_A g)) (F0 m 99 ls []) := by
    intro H locs ls hP hS hl
    cases hf
    exact zr_vret X hr hP hS rfl dX5_takeOut_99
  exact lpX5_takeOut_L5 hnI l hB X hI11 K2 hP hS (lv_sub hl [0, 1, 2, 3] rfl)
set_option maxHeartbeats 4000000 in
set_option maxRecDepth 100000 in
theorem ct_X5_endsSegment {g : zb_G} {nc : Nat} (hnI : 306 ≤ nc) (l : Launch) {b : Nat} (hB : zb_isB b) {a1 : Int32} {a2 : Int32} {I J O : Mem} {r9 : Int32} (hf : fX5_endsSegment b a1 a2 I = some r9) : zb_Ct l g nc yX5_endsSegment cX5_endsSegment 3 (some .boolean) 1 21 [.ref (g.2.2 + b), .int a1, .int a2] (zb_ce g I J O) (some (.int r9)) (zb_ce g I J O) := by
  refine zb_ofW (own := RX5) (by decide +kernel) rfl (Nat.le_of_ble_eq_true rfl) ?_
  intro p e s m args below meth c ls X hr hP hl
  have hx := X.1.1
  have hb := X.1.2.1
  have ho := X.1.2.2.2.1
  have hts := X.1.2.2.2.2
  have hZ := X.2.2.2
  have hl : lv_has ls 3 [(0, .ref (g.2.2 + b)), (1, .int a1), (2, .int a2)] := hl
  have hS : va_S (zb_A g) s.heap s.heap [] := va_S.rf
  obtain ⟨H, hH⟩ : ∃ H, H = s.heap := ⟨_, rfl⟩
  obtain ⟨locs, hlocs⟩ : ∃ z : List Loc, z = [] := ⟨_, rfl⟩
  rw [← hH] at hP
  have hS : va_S (zb_A g) s.heap H locs := by rw [hH, hlocs]; exact hS
  show W p l e _ s m args below meth c s.heap [] 0 0 _ _
  rw [← hH, ← hlocs]
  rw [fX5_endsSegment] at hf
  refine lv_iload_n hx hb dX5_endsSegment_0 rfl (lv_at hl 1 rfl) ?_
  refine lv_aload_n hx hb dX5_endsSegment_1 rfl (lv_at hl 0 rfl) ?_
  refine gf_X5_12 X hnI hP (zb_b0 hB) dX5_endsSegment_2 ?_
  refine gf_X5_70 X hnI hP (zb_bk (j := 1) hB (by decide) rfl) dX5_endsSegment_5 ?_
  refine lv_iconst (v := (1 : Int32)) hx hb dX5_endsSegment_8 (by decide) ?_
  refine lv_isub hx hb dX5_endsSegment_9 ?_
  obtain ⟨x2, ht, hf⟩ := ob_e hf
  have K1 : ∀ (H : Heap) (locs : List Loc) (ls : Array Slot), va_P g.1 vwCl (zb_ws g nc (zb_ce g I J O)) H → va_S (zb_A g) s.heap H locs → lv_has ls 3 [] → W p l e { frames := 1, cells := 0, slots := 0, locals := 21 } s m args below meth c H locs 0 0 (MQ below (zb_Po g nc (zb_ce g I J O) (some (.int r9))) args s 0 0 (zb_A g)) (F0 m 26 ls [.int x2]) := by
    intro H locs ls hP hS hl
    obtain ⟨v9, hv9, hf⟩ := ob_e hf
    obtain ⟨hn9, he9⟩ := zbo_e hv9
    cases hf
    cases he9
    exact zr_zret X hr hn9 hP hS dX5_endsSegment_26
  have hf := ht
  refine lv_icmp_eq (tgt := 21) hx hb dX5_endsSegment_10 (by decide) (fun hc => ?_) (fun hc => ?_)
  · have hf := if_t hc hf
    refine lv_iconst (v := (1 : Int32)) hx hb dX5_endsSegment_21 (by decide) ?_
    refine lv_goto (tgt := 26) hx hb dX5_endsSegment_22 (by decide) ?_
    cases hf
    exact K1 H locs ls hP hS (lv_sub hl [] rfl)
  · have hf := if_f hc hf
    refine lv_iload_n hx hb dX5_endsSegment_13 rfl (lv_at hl 2 rfl) ?_
    refine lv_iload_n hx hb dX5_endsSegment_14 rfl (lv_at hl 1 rfl) ?_
    obtain ⟨x1, hx1, hf⟩ := ob_e hf
    refine zr_cNi (rest := []) (As := [.int a2, .int a1]) X hP hS (ct_X7_has (g := g) (nc := nc) (I := I) (J := J) (O := O)  l  hx1) cw_X5_145  rfl hl.1 (Nat.le_of_ble_eq_true rfl) ⟨Nat.le_of_ble_eq_true rfl, Nat.le_of_ble_eq_true rfl⟩ ⟨Nat.le_of_ble_eq_true rfl, Nat.le_of_ble_eq_true rfl⟩ dX5_endsSegment_15 rfl (fun H locs hP hS => ?_)
    refine lv_if_eq (tgt := 25) hx hb dX5_endsSegment_18 (by decide) (fun hc => ?_) (fun hc => ?_)
    · have hf := if_t hc hf
      refine lv_iconst (v := (0 : Int32)) hx hb dX5_endsSegment_25 (by decide) ?_
      cases hf
      exact K1 H locs ls hP hS (lv_sub hl [] rfl)
    · have hf := if_f hc hf
      refine lv_iconst (v := (1 : Int32)) hx hb dX5_endsSegment_21 (by decide) ?_
      refine lv_goto (tgt := 26) hx hb dX5_endsSegment_22 (by decide) ?_
      cases hf
      exact K1 H locs ls hP hS (lv_sub hl [] rfl)
set_option maxHeartbeats 4000000 in
set_option maxRecDepth 100000 in
theorem lpX5_breaking_L6 {g : zb_G} {nc : Nat} (hnI : 306 ≤ nc) (l : Launch) {b : Nat} (hB : zb_isB b) {a1 : Int32} {a2 : Int32} {a3 : Int32} {J O : Mem} {p : Program} {e : Env} {s : State} {m : MethodId} {args : Array Value} {below : List Frame} {meth : Method} {c : Code} {Q : State → Prop} (X : zb_X g p m c cX5_breaking 7 s args RX5 meth) : ∀ {n9 : Nat} {a5 : Int32} {a4 : Int32} {I : Mem} {z4 : Int32} {H : Heap} {locs : List Loc} {ls : Array Slot}, fX5_breaking_L6 b a1 a2 a3 n9 a5 a4 I = some z4 → (∀ (H : Heap) (locs : List Loc) (ls : Array Slot), va_P g.1 vwCl (zb_ws g nc (zb_ce g I J O)) H → va_S (zb_A g) s.heap H locs → lv_has ls 7 [(4, .int z4)] → W p l e { frames := 1, cells := 0, slots := 0, locals := 21 } s m args below meth c H locs 0 0 Q (F0 m 99 ls [])) → va_P g.1 vwCl (zb_ws g nc (zb_ce g I J O)) H → va_S (zb_A g) s.heap H locs → lv_has ls 7 [(5, .int a5), (4, .int a4), (0, .ref (g.2.2 + b)), (1, .int a1), (2, .int a2), (3, .int a3)] → W p l e { frames := 1, cells := 0, slots := 0, locals := 21 } s m args below meth c H locs 0 0 Q (F0 m 6 ls []) := by
  have hx := X.1.1
  have hb := X.1.2.1
  have ho := X.1.2.2.2.1
  have hts := X.1.2.2.2.2
  have hZ := X.2.2.2
  intro n9
  induction n9 with
  | zero =>
    intro a5 a4 I z4 H locs ls hf
    exact nomatch hf
  | succ n9 ih =>
    intro a5 a4 I z4 H locs ls hf KK hP hS hl
    rw [fX5_breaking_L6] at hf
    refine lv_iload hx hb dX5_breaking_6 (lv_at hl 0 rfl) ?_
    refine lv_aload_n hx hb dX5_breaking_8 rfl (lv_at hl 2 rfl) ?_
    refine gf_X5_12 X hnI hP (zb_b0 hB) dX5_breaking_9 ?_
    refine gf_X5_70 X hnI hP (zb_bk (j := 1) hB (by decide) rfl) dX5_breaking_12 ?_
    refine lv_iconst (v := (1 : Int32)) hx hb dX5_breaking_15 (by decide) ?_
    refine lv_isub hx hb dX5_breaking_16 ?_
    refine lv_icmp_ge (tgt := 99) hx hb dX5_breaking_17 (by decide) (fun hc => ?_) (fun hc => ?_)
    · have hf := if_t hc hf
      cases hf
      exact KK H locs ls hP hS (lv_sub hl [1] rfl)
    · have hf := if_f hc hf
      refine lv_iload hx hb dX5_breaking_20 (lv_at hl 0 rfl) ?_
      refine lv_iload_n hx hb dX5_breaking_22 rfl (lv_at hl 4 rfl) ?_
      obtain ⟨x2, ht, hf⟩ := ob_e hf
      have K1 : ∀ (H : Heap) (locs : List Loc) (ls : Array Slot), va_P g.1 vwCl (zb_ws g nc (zb_ce g I J O)) H → va_S (zb_A g) s.heap H locs → lv_has ls 7 [(5, .int a5), (4, .int a4), (0, .ref (g.2.2 + b)), (1, .int a1), (2, .int a2), (3, .int a3)] → W p l e { frames := 1, cells := 0, slots := 0, locals := 21 } s m args below meth c H locs 0 0 Q (F0 m 52 ls [.int x2]) := by
        intro H locs ls hP hS hl
        refine lv_istore (lv' := [(6, .int x2), (5, .int a5), (4, .int a4), (0, .ref (g.2.2 + b)), (1, .int a1), (2, .int a2), (3, .int a3)]) hx hb dX5_breaking_52 hl (by decide) rfl (fun ls hl => ?_)
        refine lv_iload hx hb dX5_breaking_54 (lv_at hl 0 rfl) ?_
        obtain ⟨x5, ht, hf⟩ := ob_e hf
        have K2 : ∀ (H : Heap) (locs : List Loc) (ls : Array Slot), va_P g.1 vwCl (zb_ws g nc (zb_ce g I J O)) H → va_S (zb_A g) s.heap H locs → lv_has ls 7 [(5, .int a5), (4, .int x5), (0, .ref (g.2.2 + b)), (1, .int a1), (2, .int a2), (3, .int a3)] → W p l e { frames := 1, cells := 0, slots := 0, locals := 21 } s m args below meth c H locs 0 0 Q (F0 m 93 ls []) := by
          intro H locs ls hP hS hl
          refine lv_iinc (v := (a5 + (1 : Int32))) (lv' := [(5, .int (a5 + (1 : Int32))), (4, .int x5), (0, .ref (g.2.2 + b)), (1, .int a1), (2, .int a2), (3, .int a3)]) hx hb dX5_breaking_93 hl (k := 0) rfl rfl (by decide) rfl (fun ls hl => ?_)
          refine lv_goto (tgt := 6) hx hb dX5_breaking_96 (by decide) ?_
          exact ih hf KK hP hS (lv_sub hl [0, 1, 2, 3, 4, 5] rfl)
        have hf := ht
        refine lv_if_eq (tgt := 93) hx hb dX5_breaking_56 (by decide) (fun hc => ?_) (fun hc => ?_)
        · have hf := if_t hc hf
          cases hf
          exact K2 H locs ls hP hS (lv_sub hl [1, 2, 3, 4, 5, 6] rfl)
        · have hf := if_f hc hf
          refine lv_aload_n hx hb dX5_breaking_59 rfl (lv_at hl 3 rfl) ?_
          refine gf_X5_21 X hnI hP (zb_b0 hB) dX5_breaking_60 ?_
          refine gf_X5_178 X hnI hP (zb_bk (j := 11) hB (by decide) rfl) dX5_breaking_63 ?_
          refine lv_iload hx hb dX5_breaking_66 (lv_at hl 1 rfl) ?_
          obtain ⟨x3, hx3, hf⟩ := ob_e hf
          refine zr_aldI X hP hnI (zb_bk (j := 13) hB (by decide) rfl) hx3 dX5_breaking_68 ?_
          refine lv_iload_n hx hb dX5_breaking_69 rfl (lv_at hl 4 rfl) ?_
          refine lv_iadd hx hb dX5_breaking_70 ?_
          refine lv_aload_n hx hb dX5_breaking_71 rfl (lv_at hl 3 rfl) ?_
          refine gf_X5_21 X hnI hP (zb_b0 hB) dX5_breaking_72 ?_
          refine gf_X5_181 X hnI hP (zb_bk (j := 11) hB (by decide) rfl) dX5_breaking_75 ?_
          refine lv_iload hx hb dX5_breaking_78 (lv_at hl 1 rfl) ?_
          obtain ⟨x4, hx4, hf⟩ := ob_e hf
          refine zr_aldI X hP hnI (zb_bk (j := 12) hB (by decide) rfl) hx4 dX5_breaking_80 ?_
          refine lv_icmp_le (tgt := 93) hx hb dX5_breaking_81 (by decide) (fun hc => ?_) (fun hc => ?_)
          · have hf := if_t hc hf
            cases hf
            exact K2 H locs ls hP hS (lv_sub hl [1, 2, 3, 4, 5, 6] rfl)
          · have hf := if_f hc hf
            refine lv_iload hx hb dX5_breaking_84 (lv_at hl 2 rfl) ?_
            refine lv_iconst (v := (1 : Int32)) hx hb dX5_breaking_86 (by decide) ?_
            refine lv_iload hx hb dX5_breaking_87 (lv_at hl 1 rfl) ?_
            refine lv_ishl hx hb dX5_breaking_89 ?_
            refine lv_ior hx hb dX5_breaking_90 ?_
            refine lv_istore (lv' := [(4, .int (a4 ||| ((1 : Int32) <<< (a5 &&& 31)))), (6, .int x2), (5, .int a5), (0, .ref (g.2.2 + b)), (1, .int a1), (2, .int a2), (3, .int a3)]) hx hb dX5_breaking_91 hl (by decide) rfl (fun ls hl => ?_)
            cases hf
            exact K2 H locs ls hP hS (lv_sub hl [2, 0, 3, 4, 5, 6] rfl)
      have hf := ht
      refine lv_icmp_lt (tgt := 51) hx hb dX5_breaking_23 (by decide) (fun hc => ?_) (fun hc => ?_)
      · have hf := if_t hc hf
        refine lv_iconst (v := (0 : Int32)) hx hb dX5_breaking_51 (by decide) ?_
        cases hf
        exact K1 H locs ls hP hS (lv_sub hl [0, 1, 2, 3, 4, 5] rfl)
      · have hf := if_f hc hf
        refine lv_iload hx hb dX5_breaking_26 (lv_at hl 0 rfl) ?_
        refine lv_iload_n hx hb dX5_breaking_28 rfl (lv_at hl 5 rfl) ?_
        refine lv_icmp_ge (tgt := 51) hx hb dX5_breaking_29 (by decide) (fun hc => ?_) (fun hc => ?_)
        · have hf := if_t hc hf
          refine lv_iconst (v := (0 : Int32)) hx hb dX5_breaking_51 (by decide) ?_
          cases hf
          exact K1 H locs ls hP hS (lv_sub hl [0, 1, 2, 3, 4, 5] rfl)
        · have hf := if_f hc hf
          refine lv_aload_n hx hb dX5_breaking_32 rfl (lv_at hl 2 rfl) ?_
          refine gf_X5_21 X hnI hP (zb_b0 hB) dX5_breaking_33 ?_
          refine gf_X5_175 X hnI hP (zb_bk (j := 11) hB (by decide) rfl) dX5_breaking_36 ?_
          refine lv_iload hx hb dX5_breaking_39 (lv_at hl 0 rfl) ?_
          obtain ⟨x1, hx1, hf⟩ := ob_e hf
          refine zr_cNi (rest := []) (As := [.int (I (b + 11) 0), .int a5]) X hP hS (ct_X7_has (g := g) (nc := nc) (I := I) (J := J) (O := O)  l  hx1) cw_X5_145  rfl hl.1 (Nat.le_of_ble_eq_true rfl) ⟨Nat.le_of_ble_eq_true rfl, Nat.le_of_ble_eq_true rfl⟩ ⟨Nat.le_of_ble_eq_true rfl, Nat.le_of_ble_eq_true rfl⟩ dX5_breaking_41 rfl (fun H locs hP hS => ?_)
          refine lv_if_ne (tgt := 51) hx hb dX5_breaking_44 (by decide) (fun hc => ?_) (fun hc => ?_)
          · have hf := if_f hc hf
            refine lv_iconst (v := (0 : Int32)) hx hb dX5_breaking_51 (by decide) ?_
            cases hf
            exact K1 H locs ls hP hS (lv_sub hl [0, 1, 2, 3, 4, 5] rfl)
          · have hf := if_t hc hf
            refine lv_iconst (v := (1 : Int32)) hx hb dX5_breaking_47 (by decide) ?_
            refine lv_goto (tgt := 52) hx hb dX5_breaking_48 (by decide) ?_
            cases hf
            exact K1 H locs ls hP hS (lv_sub hl [0, 1, 2, 3, 4, 5] rfl)
set_option maxHeartbeats 4000000 in
set_option maxRecDepth 100000 in
theorem ct_X5_breaking {g : zb_G} {nc : Nat} (hnI : 306 ≤ nc) (l : Launch) {b : Nat} (hB : zb_isB b) {a1 : Int32} {a2 : Int32} {a3 : Int32} {I J O : Mem} {r9 : Int32} (hf : fX5_breaking b a1 a2 a3 I = some r9) : zb_Ct l g nc yX5_breaking cX5_breaking 7 (some .int) 1 21 [.ref (g.2.2 + b), .int a1, .int a2, .int a3] (zb_ce g I J O) (some (.int r9)) (zb_ce g I J O) := by
  refine zb_ofW (own := RX5) (by decide +kernel) rfl (Nat.le_of_ble_eq_true rfl) ?_
  intro p e s m args below meth c ls X hr hP hl
  have hx := X.1.1
  have hb := X.1.2.1
  have ho := X.1.2.2.2.1
  have hts := X.1.2.2.2.2
  have hZ := X.2.2.2
  have hl : lv_has ls 7 [(0, .ref (g.2.2 + b)), (1, .int a1), (2, .int a2), (3, .int a3)] := hl
  have hS : va_S (zb_A g) s.heap s.heap [] := va_S.rf
  obtain ⟨H, hH⟩ : ∃ H, H = s.heap := ⟨_, rfl⟩
  obtain ⟨locs, hlocs⟩ : ∃ z : List Loc, z = [] := ⟨_, rfl⟩
  rw [← hH] at hP
  have hS : va_S (zb_A g) s.heap H locs := by rw [hH, hlocs]; exact hS
  show W p l e _ s m args below meth c s.heap [] 0 0 _ _
  rw [← hH, ← hlocs]
  rw [fX5_breaking] at hf
  refine lv_iconst (v := (0 : Int32)) hx hb dX5_breaking_0 (by decide) ?_
  refine lv_istore (lv' := [(4, .int (0 : Int32)), (0, .ref (g.2.2 + b)), (1, .int a1), (2, .int a2), (3, .int a3)]) hx hb dX5_breaking_1 hl (by decide) rfl (fun ls hl => ?_)
  refine lv_iconst (v := (0 : Int32)) hx hb dX5_breaking_3 (by decide) ?_
  refine lv_istore (lv' := [(5, .int (0 : Int32)), (4, .int (0 : Int32)), (0, .ref (g.2.2 + b)), (1, .int a1), (2, .int a2), (3, .int a3)]) hx hb dX5_breaking_4 hl (by decide) rfl (fun ls hl => ?_)
  obtain ⟨x6, hx6, hf⟩ := ob_e hf
  have K3 : ∀ (H : Heap) (locs : List Loc) (ls : Array Slot), va_P g.1 vwCl (zb_ws g nc (zb_ce g I J O)) H → va_S (zb_A g) s.heap H locs → lv_has ls 7 [(4, .int x6)] → W p l e { frames := 1, cells := 0, slots := 0, locals := 21 } s m args below meth c H locs 0 0 (MQ below (zb_Po g nc (zb_ce g I J O) (some (.int r9))) args s 0 0 (zb_A g)) (F0 m 99 ls []) := by
    intro H locs ls hP hS hl
    refine lv_iload hx hb dX5_breaking_99 (lv_at hl 0 rfl) ?_
    cases hf
    exact zr_iret X hr hP hS dX5_breaking_101
  exact lpX5_breaking_L6 hnI l hB X hx6 K3 hP hS (lv_sub hl [0, 1, 2, 3, 4, 5] rfl)
set_option maxHeartbeats 4000000 in
set_option maxRecDepth 100000 in
theorem lpX5_drifting_L32 {g : zb_G} {nc : Nat} (hnI : 306 ≤ nc) (l : Launch) {b : Nat} (hB : zb_isB b) {a4 : Int32} {a1 : Int32} {a2 : Int32} {a3 : Int32} {J O : Mem} {p : Program} {e : Env} {s : State} {m : MethodId} {args : Array Value} {below : List Frame} {meth : Method} {c : Code} {Q : State → Prop} (X : zb_X g p m c cX5_drifting 10 s args RX5 meth) : ∀ {n9 : Nat} {a9 : Int32} {a8 : Int32} {a7 : Int32} {a6 : Int32} {a5 : Int32} {I : Mem} {z5 : Int32} {H : Heap} {locs : List Loc} {ls : Array Slot}, fX5_drifting_L32 b a4 a1 a2 a3 n9 a9 a8 a7 a6 a5 I = some z5 → (∀ (H : Heap) (locs : List Loc) (ls : Array Slot), va_P g.1 vwCl (zb_ws g nc (zb_ce g I J O)) H → va_S (zb_A g) s.heap H locs → lv_has ls 10 [(5, .int z5)] → W p l e { frames := 2, cells := 0, slots := 0, locals := 47 } s m args below meth c H locs 0 0 Q (F0 m 132 ls [])) → va_P g.1 vwCl (zb_ws g nc (zb_ce g I J O)) H → va_S (zb_A g) s.heap H locs → lv_has ls 10 [(9, .int a9), (8, .int a8), (7, .int a7), (6, .int a6), (5, .int a5), (4, .int a4), (0, .ref (g.2.2 + b)), (1, .int a1), (2, .int a2), (3, .int a3)] → W p l e { frames := 2, cells := 0, slots := 0, locals := 47 } s m args below meth c H locs 0 0 Q (F0 m 32 ls []) := by
  have hx := X.1.1
  have hb := X.1.2.1
  have ho := X.1.2.2.2.1
  have hts := X.1.2.2.2.2
  have hZ := X.2.2.2
  intro n9
  induction n9 with
  | zero =>
    intro a9 a8 a7 a6 a5 I z5 H locs ls hf
    exact nomatch hf
  | succ n9 ih =>
    intro a9 a8 a7 a6 a5 I z5 H locs ls hf KK hP hS hl
    rw [fX5_drifting_L32] at hf
    refine lv_iload hx hb dX5_drifting_32 (lv_at hl 0 rfl) ?_
    refine lv_aload_n hx hb dX5_drifting_34 rfl (lv_at hl 6 rfl) ?_
    refine gf_X5_12 X hnI hP (zb_b0 hB) dX5_drifting_35 ?_
    refine gf_X5_70 X hnI hP (zb_bk (j := 1) hB (by decide) rfl) dX5_drifting_38 ?_
    refine lv_icmp_ge (tgt := 132) hx hb dX5_drifting_41 (by decide) (fun hc => ?_) (fun hc => ?_)
    · have hf := if_t hc hf
      cases hf
      exact KK H locs ls hP hS (lv_sub hl [4] rfl)
    · have hf := if_f hc hf
      refine lv_iload hx hb dX5_drifting_44 (lv_at hl 3 rfl) ?_
      refine lv_iconst (v := (1 : Int32)) hx hb dX5_drifting_46 (by decide) ?_
      refine lv_iload hx hb dX5_drifting_47 (lv_at hl 0 rfl) ?_
      refine lv_ishl hx hb dX5_drifting_49 ?_
      refine lv_ior hx hb dX5_drifting_50 ?_
      refine lv_istore (lv' := [(6, .int (a6 ||| ((1 : Int32) <<< (a9 &&& 31)))), (9, .int a9), (8, .int a8), (7, .int a7), (5, .int a5), (4, .int a4), (0, .ref (g.2.2 + b)), (1, .int a1), (2, .int a2), (3, .int a3)]) hx hb dX5_drifting_51 hl (by decide) rfl (fun ls hl => ?_)
      refine lv_iload hx hb dX5_drifting_53 (lv_at hl 3 rfl) ?_
      refine lv_aload_n hx hb dX5_drifting_55 rfl (lv_at hl 6 rfl) ?_
      refine gf_X5_12 X hnI hP (zb_b0 hB) dX5_drifting_56 ?_
      refine gf_X5_188 X hnI hP (zb_bk (j := 1) hB (by decide) rfl) dX5_drifting_59 ?_
      refine lv_iload hx hb dX5_drifting_62 (lv_at hl 1 rfl) ?_
      obtain ⟨x2, hx2, hf⟩ := ob_e hf
      refine zr_aldI X hP hnI (zb_bk (j := 4) hB (by decide) rfl) hx2 dX5_drifting_64 ?_
      refine lv_iadd hx hb dX5_drifting_65 ?_
      refine lv_istore (lv' := [(7, .int (a7 + x2)), (6, .int (a6 ||| ((1 : Int32) <<< (a9 &&& 31)))), (9, .int a9), (8, .int a8), (5, .int a5), (4, .int a4), (0, .ref (g.2.2 + b)), (1, .int a1), (2, .int a2), (3, .int a3)]) hx hb dX5_drifting_66 hl (by decide) rfl (fun ls hl => ?_)
      refine lv_iload hx hb dX5_drifting_68 (lv_at hl 3 rfl) ?_
      refine lv_iload hx hb dX5_drifting_70 (lv_at hl 2 rfl) ?_
      refine lv_iload_n hx hb dX5_drifting_72 rfl (lv_at hl 8 rfl) ?_
      obtain ⟨x3, ht, hf⟩ := pl_e hf
      have K1 : ∀ (H : Heap) (locs : List Loc) (ls : Array Slot), va_P g.1 vwCl (zb_ws g nc (zb_ce g I J O)) H → va_S (zb_A g) s.heap H locs → lv_has ls 10 [(7, .int (a7 + x2)), (6, .int (a6 ||| ((1 : Int32) <<< (a9 &&& 31)))), (9, .int a9), (5, .int a5), (4, .int a4), (0, .ref (g.2.2 + b)), (1, .int a1), (2, .int a2), (3, .int a3)] → W p l e { frames := 2, cells := 0, slots := 0, locals := 47 } s m args below meth c H locs 0 0 Q (F0 m 87 ls [.int x3, .int a8]) := by
        intro H locs ls hP hS hl
        refine lv_iadd hx hb dX5_drifting_87 ?_
        refine lv_istore (lv' := [(8, .int (a8 + x3)), (7, .int (a7 + x2)), (6, .int (a6 ||| ((1 : Int32) <<< (a9 &&& 31)))), (9, .int a9), (5, .int a5), (4, .int a4), (0, .ref (g.2.2 + b)), (1, .int a1), (2, .int a2), (3, .int a3)]) hx hb dX5_drifting_88 hl (by decide) rfl (fun ls hl => ?_)
        refine lv_aload_n hx hb dX5_drifting_90 rfl (lv_at hl 6 rfl) ?_
        refine lv_iload hx hb dX5_drifting_91 (lv_at hl 3 rfl) ?_
        refine lv_iload hx hb dX5_drifting_93 (lv_at hl 5 rfl) ?_
        obtain ⟨x4, hx4, hf⟩ := ob_e hf
        refine zr_cVi (rest := []) (As := [.int a9, .int a4]) X hP hS (ct_X5_endsSegment (g := g) (nc := nc) (I := I) (J := J) (O := O) hnI l hB hx4) cw_X5_191 (zr_recv X hP (Nat.lt_of_lt_of_le ((zb_b0 hB)).1 hnI) (zb_ceIo (zb_b0 hB) (by decide)) rfl) rfl hl.1 (Nat.le_of_ble_eq_true rfl) ⟨Nat.le_of_ble_eq_true rfl, Nat.le_of_ble_eq_true rfl⟩ ⟨Nat.le_of_ble_eq_true rfl, Nat.le_of_ble_eq_true rfl⟩ dX5_drifting_95 rfl (fun H locs hP hS => ?_)
        obtain ⟨x6, x7, x8, x9, ht, hf⟩ := pl4_e hf
        have K2 : ∀ (H : Heap) (locs : List Loc) (ls : Array Slot), va_P g.1 vwCl (zb_ws g nc (zb_ce g I J O)) H → va_S (zb_A g) s.heap H locs → lv_has ls 10 [(8, .int x6), (7, .int x7), (6, .int x8), (9, .int a9), (5, .int x9), (4, .int a4), (0, .ref (g.2.2 + b)), (1, .int a1), (2, .int a2), (3, .int a3)] → W p l e { frames := 2, cells := 0, slots := 0, locals := 47 } s m args below meth c H locs 0 0 Q (F0 m 126 ls []) := by
          intro H locs ls hP hS hl
          refine lv_iinc (v := (a9 + (1 : Int32))) (lv' := [(9, .int (a9 + (1 : Int32))), (8, .int x6), (7, .int x7), (6, .int x8), (5, .int x9), (4, .int a4), (0, .ref (g.2.2 + b)), (1, .int a1), (2, .int a2), (3, .int a3)]) hx hb dX5_drifting_126 hl (k := 3) rfl rfl (by decide) rfl (fun ls hl => ?_)
          refine lv_goto (tgt := 32) hx hb dX5_drifting_129 (by decide) ?_
          exact ih hf KK hP hS (lv_sub hl [0, 1, 2, 3, 4, 5, 6, 7, 8, 9] rfl)
        have hf := ht
        refine lv_if_eq (tgt := 126) hx hb dX5_drifting_98 (by decide) (fun hc => ?_) (fun hc => ?_)
        · have hf := if_t hc hf
          cases hf
          exact K2 H locs ls hP hS (lv_sub hl [0, 1, 2, 3, 4, 5, 6, 7, 8, 9] rfl)
        · have hf := if_f hc hf
          refine lv_iload hx hb dX5_drifting_101 (lv_at hl 1 rfl) ?_
          refine lv_iload_n hx hb dX5_drifting_103 rfl (lv_at hl 7 rfl) ?_
          refine lv_iload hx hb dX5_drifting_104 (lv_at hl 0 rfl) ?_
          refine lv_imul hx hb dX5_drifting_106 ?_
          obtain ⟨x5, ht, hf⟩ := pl_e hf
          have K3 : ∀ (H : Heap) (locs : List Loc) (ls : Array Slot), va_P g.1 vwCl (zb_ws g nc (zb_ce g I J O)) H → va_S (zb_A g) s.heap H locs → lv_has ls 10 [(9, .int a9), (5, .int x5), (4, .int a4), (0, .ref (g.2.2 + b)), (1, .int a1), (2, .int a2), (3, .int a3)] → W p l e { frames := 2, cells := 0, slots := 0, locals := 47 } s m args below meth c H locs 0 0 Q (F0 m 117 ls []) := by
            intro H locs ls hP hS hl
            refine lv_iconst (v := (0 : Int32)) hx hb dX5_drifting_117 (by decide) ?_
            refine lv_istore (lv' := [(6, .int (0 : Int32)), (9, .int a9), (5, .int x5), (4, .int a4), (0, .ref (g.2.2 + b)), (1, .int a1), (2, .int a2), (3, .int a3)]) hx hb dX5_drifting_118 hl (by decide) rfl (fun ls hl => ?_)
            refine lv_iconst (v := (0 : Int32)) hx hb dX5_drifting_120 (by decide) ?_
            refine lv_istore (lv' := [(7, .int (0 : Int32)), (6, .int (0 : Int32)), (9, .int a9), (5, .int x5), (4, .int a4), (0, .ref (g.2.2 + b)), (1, .int a1), (2, .int a2), (3, .int a3)]) hx hb dX5_drifting_121 hl (by decide) rfl (fun ls hl => ?_)
            refine lv_iconst (v := (0 : Int32)) hx hb dX5_drifting_123 (by decide) ?_
            refine lv_istore (lv' := [(8, .int (0 : Int32)), (7, .int (0 : Int32)), (6, .int (0 : Int32)), (9, .int a9), (5, .int x5), (4, .int a4), (0, .ref (g.2.2 + b)), (1, .int a1), (2, .int a2), (3, .int a3)]) hx hb dX5_drifting_124 hl (by decide) rfl (fun ls hl => ?_)
            cases hf
            exact K2 H locs ls hP hS (lv_sub hl [0, 1, 2, 3, 4, 5, 6, 7, 8, 9] rfl)
          have hf := ht
          refine lv_icmp_ge (tgt := 117) hx hb dX5_drifting_107 (by decide) (fun hc => ?_) (fun hc => ?_)
          · have hf := if_t hc hf
            cases hf
            exact K3 H locs ls hP hS (lv_sub hl [3, 4, 5, 6, 7, 8, 9] rfl)
          · have hf := if_f hc hf
            refine lv_iload hx hb dX5_drifting_110 (lv_at hl 4 rfl) ?_
            refine lv_iload hx hb dX5_drifting_112 (lv_at hl 2 rfl) ?_
            refine lv_ior hx hb dX5_drifting_114 ?_
            refine lv_istore (lv' := [(5, .int (a5 ||| (a6 ||| ((1 : Int32) <<< (a9 &&& 31))))), (8, .int (a8 + x3)), (7, .int (a7 + x2)), (6, .int (a6 ||| ((1 : Int32) <<< (a9 &&& 31)))), (9, .int a9), (4, .int a4), (0, .ref (g.2.2 + b)), (1, .int a1), (2, .int a2), (3, .int a3)]) hx hb dX5_drifting_115 hl (by decide) rfl (fun ls hl => ?_)
            cases hf
            exact K3 H locs ls hP hS (lv_sub hl [4, 0, 5, 6, 7, 8, 9] rfl)
      have hf := ht
      refine lv_icmp_lt (tgt := 86) hx hb dX5_drifting_73 (by decide) (fun hc => ?_) (fun hc => ?_)
      · have hf := if_t hc hf
        refine lv_iconst (v := (0 : Int32)) hx hb dX5_drifting_86 (by decide) ?_
        cases hf
        exact K1 H locs ls hP hS (lv_sub hl [0, 1, 2, 4, 5, 6, 7, 8, 9] rfl)
      · have hf := if_f hc hf
        refine lv_iload hx hb dX5_drifting_76 (lv_at hl 2 rfl) ?_
        refine lv_iload_n hx hb dX5_drifting_78 rfl (lv_at hl 9 rfl) ?_
        refine lv_icmp_gt (tgt := 86) hx hb dX5_drifting_79 (by decide) (fun hc => ?_) (fun hc => ?_)
        · have hf := if_t hc hf
          refine lv_iconst (v := (0 : Int32)) hx hb dX5_drifting_86 (by decide) ?_
          cases hf
          exact K1 H locs ls hP hS (lv_sub hl [0, 1, 2, 4, 5, 6, 7, 8, 9] rfl)
        · have hf := if_f hc hf
          refine lv_iconst (v := (1 : Int32)) hx hb dX5_drifting_82 (by decide) ?_
          refine lv_goto (tgt := 87) hx hb dX5_drifting_83 (by decide) ?_
          cases hf
          exact K1 H locs ls hP hS (lv_sub hl [0, 1, 2, 4, 5, 6, 7, 8, 9] rfl)
set_option maxHeartbeats 4000000 in
set_option maxRecDepth 100000 in
theorem ct_X5_drifting {g : zb_G} {nc : Nat} (hnI : 306 ≤ nc) (l : Launch) {b : Nat} (hB : zb_isB b) {a1 : Int32} {a2 : Int32} {a3 : Int32} {I J O : Mem} {r9 : Int32} (hf : fX5_drifting b a1 a2 a3 I = some r9) : zb_Ct l g nc yX5_drifting cX5_drifting 10 (some .int) 2 47 [.ref (g.2.2 + b), .int a1, .int a2, .int a3] (zb_ce g I J O) (some (.int r9)) (zb_ce g I J O) := by
  refine zb_ofW (own := RX5) (by decide +kernel) rfl (Nat.le_of_ble_eq_true rfl) ?_
  intro p e s m args below meth c ls X hr hP hl
  have hx := X.1.1
  have hb := X.1.2.1
  have ho := X.1.2.2.2.1
  have hts := X.1.2.2.2.2
  have hZ := X.2.2.2
  have hl : lv_has ls 10 [(0, .ref (g.2.2 + b)), (1, .int a1), (2, .int a2), (3, .int a3)] := hl
  have hS : va_S (zb_A g) s.heap s.heap [] := va_S.rf
  obtain ⟨H, hH⟩ : ∃ H, H = s.heap := ⟨_, rfl⟩
  obtain ⟨locs, hlocs⟩ : ∃ z : List Loc, z = [] := ⟨_, rfl⟩
  rw [← hH] at hP
  have hS : va_S (zb_A g) s.heap H locs := by rw [hH, hlocs]; exact hS
  show W p l e _ s m args below meth c s.heap [] 0 0 _ _
  rw [← hH, ← hlocs]
  rw [fX5_drifting] at hf
  refine lv_aload_n hx hb dX5_drifting_0 rfl (lv_at hl 0 rfl) ?_
  refine gf_X5_21 X hnI hP (zb_b0 hB) dX5_drifting_1 ?_
  refine gf_X5_175 X hnI hP (zb_bk (j := 11) hB (by decide) rfl) dX5_drifting_4 ?_
  refine lv_aload_n hx hb dX5_drifting_7 rfl (lv_at hl 0 rfl) ?_
  refine lv_iload_n hx hb dX5_drifting_8 rfl (lv_at hl 1 rfl) ?_
  refine lv_iload_n hx hb dX5_drifting_9 rfl (lv_at hl 2 rfl) ?_
  refine lv_iload_n hx hb dX5_drifting_10 rfl (lv_at hl 3 rfl) ?_
  obtain ⟨x1, hx1, hf⟩ := ob_e hf
  refine zr_cVi (rest := [.int (I (b + 11) 0)]) (As := [.int a1, .int a2, .int a3]) X hP hS (ct_X5_breaking (g := g) (nc := nc) (I := I) (J := J) (O := O) hnI l hB hx1) cw_X5_184 (zr_recv X hP (Nat.lt_of_lt_of_le ((zb_b0 hB)).1 hnI) (zb_ceIo (zb_b0 hB) (by decide)) rfl) rfl hl.1 (Nat.le_of_ble_eq_true rfl) ⟨Nat.le_of_ble_eq_true rfl, Nat.le_of_ble_eq_true rfl⟩ ⟨Nat.le_of_ble_eq_true rfl, Nat.le_of_ble_eq_true rfl⟩ dX5_drifting_11 rfl (fun H locs hP hS => ?_)
  refine lv_ior hx hb dX5_drifting_14 ?_
  refine lv_istore (lv' := [(4, .int ((I (b + 11) 0) ||| x1)), (0, .ref (g.2.2 + b)), (1, .int a1), (2, .int a2), (3, .int a3)]) hx hb dX5_drifting_15 hl (by decide) rfl (fun ls hl => ?_)
  refine lv_iconst (v := (0 : Int32)) hx hb dX5_drifting_17 (by decide) ?_
  refine lv_istore (lv' := [(5, .int (0 : Int32)), (4, .int ((I (b + 11) 0) ||| x1)), (0, .ref (g.2.2 + b)), (1, .int a1), (2, .int a2), (3, .int a3)]) hx hb dX5_drifting_18 hl (by decide) rfl (fun ls hl => ?_)
  refine lv_iconst (v := (0 : Int32)) hx hb dX5_drifting_20 (by decide) ?_
  refine lv_istore (lv' := [(6, .int (0 : Int32)), (5, .int (0 : Int32)), (4, .int ((I (b + 11) 0) ||| x1)), (0, .ref (g.2.2 + b)), (1, .int a1), (2, .int a2), (3, .int a3)]) hx hb dX5_drifting_21 hl (by decide) rfl (fun ls hl => ?_)
  refine lv_iconst (v := (0 : Int32)) hx hb dX5_drifting_23 (by decide) ?_
  refine lv_istore (lv' := [(7, .int (0 : Int32)), (6, .int (0 : Int32)), (5, .int (0 : Int32)), (4, .int ((I (b + 11) 0) ||| x1)), (0, .ref (g.2.2 + b)), (1, .int a1), (2, .int a2), (3, .int a3)]) hx hb dX5_drifting_24 hl (by decide) rfl (fun ls hl => ?_)
  refine lv_iconst (v := (0 : Int32)) hx hb dX5_drifting_26 (by decide) ?_
  refine lv_istore (lv' := [(8, .int (0 : Int32)), (7, .int (0 : Int32)), (6, .int (0 : Int32)), (5, .int (0 : Int32)), (4, .int ((I (b + 11) 0) ||| x1)), (0, .ref (g.2.2 + b)), (1, .int a1), (2, .int a2), (3, .int a3)]) hx hb dX5_drifting_27 hl (by decide) rfl (fun ls hl => ?_)
  refine lv_iconst (v := (0 : Int32)) hx hb dX5_drifting_29 (by decide) ?_
  refine lv_istore (lv' := [(9, .int (0 : Int32)), (8, .int (0 : Int32)), (7, .int (0 : Int32)), (6, .int (0 : Int32)), (5, .int (0 : Int32)), (4, .int ((I (b + 11) 0) ||| x1)), (0, .ref (g.2.2 + b)), (1, .int a1), (2, .int a2), (3, .int a3)]) hx hb dX5_drifting_30 hl (by decide) rfl (fun ls hl => ?_)
  obtain ⟨x10, hx10, hf⟩ := ob_e hf
  have K4 : ∀ (H : Heap) (locs : List Loc) (ls : Array Slot), va_P g.1 vwCl (zb_ws g nc (zb_ce g I J O)) H → va_S (zb_A g) s.heap H locs → lv_has ls 10 [(5, .int x10)] → W p l e { frames := 2, cells := 0, slots := 0, locals := 47 } s m args below meth c H locs 0 0 (MQ below (zb_Po g nc (zb_ce g I J O) (some (.int r9))) args s 0 0 (zb_A g)) (F0 m 132 ls []) := by
    intro H locs ls hP hS hl
    refine lv_iload hx hb dX5_drifting_132 (lv_at hl 0 rfl) ?_
    cases hf
    exact zr_iret X hr hP hS dX5_drifting_134
  exact lpX5_drifting_L32 hnI l hB X hx10 K4 hP hS (lv_sub hl [0, 1, 2, 3, 4, 5, 6, 7, 8, 9] rfl)
set_option maxHeartbeats 4000000 in
set_option maxRecDepth 100000 in
theorem lpX5_blow_L21 {g : zb_G} {nc : Nat} (hnI : 306 ≤ nc) (l : Launch) {b : Nat} (hB : zb_isB b) {a5 : Int32} {a4 : Int32} {a1 : Int32} {a2 : Int32} {a3 : Int32} {J O : Mem} {p : Program} {e : Env} {s : State} {m : MethodId} {args : Array Value} {below : List Frame} {meth : Method} {c : Code} {Q : State → Prop} (X : zb_X g p m c cX5_blow 7 s args RX5 meth) : ∀ {n9 : Nat} {a6 : Int32} {I : Mem} {Iz : Mem} {H : Heap} {locs : List Loc} {ls : Array Slot}, fX5_blow_L21 b a5 a4 a1 a2 a3 n9 a6 I = some Iz → (∀ (H : Heap) (locs : List Loc) (ls : Array Slot), va_P g.1 vwCl (zb_ws g nc (zb_ce g Iz J O)) H → va_S (zb_A g) s.heap H locs → lv_has ls 7 [(5, .int a5), (4, .int a4), (0, .ref (g.2.2 + b))] → W p l e { frames := 3, cells := 0, slots := 0, locals := 76 } s m args below meth c H locs 0 0 Q (F0 m 82 ls [])) → va_P g.1 vwCl (zb_ws g nc (zb_ce g I J O)) H → va_S (zb_A g) s.heap H locs → lv_has ls 7 [(6, .int a6), (5, .int a5), (4, .int a4), (0, .ref (g.2.2 + b)), (1, .int a1), (2, .int a2), (3, .int a3)] → W p l e { frames := 3, cells := 0, slots := 0, locals := 76 } s m args below meth c H locs 0 0 Q (F0 m 21 ls []) := by
  have hx := X.1.1
  have hb := X.1.2.1
  have ho := X.1.2.2.2.1
  have hts := X.1.2.2.2.2
  have hZ := X.2.2.2
  intro n9
  induction n9 with
  | zero =>
    intro a6 I Iz H locs ls hf
    exact nomatch hf
  | succ n9 ih =>
    intro a6 I Iz H locs ls hf KK hP hS hl
    rw [fX5_blow_L21] at hf
    refine lv_iload hx hb dX5_blow_21 (lv_at hl 0 rfl) ?_
    refine lv_aload_n hx hb dX5_blow_23 rfl (lv_at hl 3 rfl) ?_
    refine gf_X5_12 X hnI hP (zb_b0 hB) dX5_blow_24 ?_
    refine gf_X5_70 X hnI hP (zb_bk (j := 1) hB (by decide) rfl) dX5_blow_27 ?_
    refine lv_iconst (v := (1 : Int32)) hx hb dX5_blow_30 (by decide) ?_
    refine lv_isub hx hb dX5_blow_31 ?_
    refine lv_icmp_ge (tgt := 82) hx hb dX5_blow_32 (by decide) (fun hc => ?_) (fun hc => ?_)
    · have hf := if_t hc hf
      cases hf
      exact KK H locs ls hP hS (lv_sub hl [1, 2, 3] rfl)
    · have hf := if_f hc hf
      refine lv_iload hx hb dX5_blow_35 (lv_at hl 0 rfl) ?_
      refine lv_iload_n hx hb dX5_blow_37 rfl (lv_at hl 5 rfl) ?_
      obtain ⟨I6, ht, hf⟩ := ob_e hf
      have K1 : ∀ (H : Heap) (locs : List Loc) (ls : Array Slot), va_P g.1 vwCl (zb_ws g nc (zb_ce g I6 J O)) H → va_S (zb_A g) s.heap H locs → lv_has ls 7 [(6, .int a6), (5, .int a5), (4, .int a4), (0, .ref (g.2.2 + b)), (1, .int a1), (2, .int a2), (3, .int a3)] → W p l e { frames := 3, cells := 0, slots := 0, locals := 76 } s m args below meth c H locs 0 0 Q (F0 m 76 ls []) := by
        intro H locs ls hP hS hl
        refine lv_iinc (v := (a6 + (1 : Int32))) (lv' := [(6, .int (a6 + (1 : Int32))), (5, .int a5), (4, .int a4), (0, .ref (g.2.2 + b)), (1, .int a1), (2, .int a2), (3, .int a3)]) hx hb dX5_blow_76 hl (k := 0) rfl rfl (by decide) rfl (fun ls hl => ?_)
        refine lv_goto (tgt := 21) hx hb dX5_blow_79 (by decide) ?_
        exact ih hf KK hP hS (lv_sub hl [0, 1, 2, 3, 4, 5, 6] rfl)
      have hf := ht
      refine lv_icmp_lt (tgt := 76) hx hb dX5_blow_38 (by decide) (fun hc => ?_) (fun hc => ?_)
      · have hf := if_t hc hf
        cases hf
        exact K1 H locs ls hP hS (lv_sub hl [0, 1, 2, 3, 4, 5, 6] rfl)
      · have hf := if_f hc hf
        refine lv_iload hx hb dX5_blow_41 (lv_at hl 0 rfl) ?_
        refine lv_iload_n hx hb dX5_blow_43 rfl (lv_at hl 6 rfl) ?_
        refine lv_icmp_ge (tgt := 76) hx hb dX5_blow_44 (by decide) (fun hc => ?_) (fun hc => ?_)
        · have hf := if_t hc hf
          cases hf
          exact K1 H locs ls hP hS (lv_sub hl [0, 1, 2, 3, 4, 5, 6] rfl)
        · have hf := if_f hc hf
          refine lv_aload_n hx hb dX5_blow_47 rfl (lv_at hl 3 rfl) ?_
          refine gf_X5_21 X hnI hP (zb_b0 hB) dX5_blow_48 ?_
          refine gf_X5_175 X hnI hP (zb_bk (j := 11) hB (by decide) rfl) dX5_blow_51 ?_
          refine lv_iload hx hb dX5_blow_54 (lv_at hl 0 rfl) ?_
          obtain ⟨x3, hx3, hf⟩ := ob_e hf
          refine zr_cNi (rest := []) (As := [.int (I (b + 11) 0), .int a6]) X hP hS (ct_X7_has (g := g) (nc := nc) (I := I) (J := J) (O := O)  l  hx3) cw_X5_145  rfl hl.1 (Nat.le_of_ble_eq_true rfl) ⟨Nat.le_of_ble_eq_true rfl, Nat.le_of_ble_eq_true rfl⟩ ⟨Nat.le_of_ble_eq_true rfl, Nat.le_of_ble_eq_true rfl⟩ dX5_blow_56 rfl (fun H locs hP hS => ?_)
          refine lv_if_ne (tgt := 76) hx hb dX5_blow_59 (by decide) (fun hc => ?_) (fun hc => ?_)
          · have hf := if_f hc hf
            cases hf
            exact K1 H locs ls hP hS (lv_sub hl [0, 1, 2, 3, 4, 5, 6] rfl)
          · have hf := if_t hc hf
            refine lv_aload_n hx hb dX5_blow_62 rfl (lv_at hl 3 rfl) ?_
            refine gf_X5_21 X hnI hP (zb_b0 hB) dX5_blow_63 ?_
            refine gf_X5_178 X hnI hP (zb_bk (j := 11) hB (by decide) rfl) dX5_blow_66 ?_
            refine lv_iload hx hb dX5_blow_69 (lv_at hl 0 rfl) ?_
            refine lv_dup2_11 hx hb dX5_blow_71 rfl rfl ?_
            obtain ⟨x4, hx4, hf⟩ := ob_e hf
            refine zr_aldI X hP hnI (zb_bk (j := 13) hB (by decide) rfl) hx4 dX5_blow_72 ?_
            refine lv_iload_n hx hb dX5_blow_73 rfl (lv_at hl 4 rfl) ?_
            refine lv_iadd hx hb dX5_blow_74 ?_
            obtain ⟨I5, hI5, hf⟩ := ob_e hf
            refine zr_astI X hP hS hnI (zb_bk (j := 13) hB (by decide) rfl) hI5 dX5_blow_75 (fun H locs hP hS => ?_)
            cases hf
            exact K1 H locs ls hP hS (lv_sub hl [0, 1, 2, 3, 4, 5, 6] rfl)
set_option maxHeartbeats 4000000 in
set_option maxRecDepth 100000 in
theorem lpX5_blow_L99 {g : zb_G} {nc : Nat} (hnI : 306 ≤ nc) (l : Launch) {b : Nat} (hB : zb_isB b) {a4 : Int32} {J O : Mem} {p : Program} {e : Env} {s : State} {m : MethodId} {args : Array Value} {below : List Frame} {meth : Method} {c : Code} {Q : State → Prop} (X : zb_X g p m c cX5_blow 7 s args RX5 meth) : ∀ {n9 : Nat} {a6 : Int32} {I : Mem} {Iz : Mem} {H : Heap} {locs : List Loc} {ls : Array Slot}, fX5_blow_L99 b a4 n9 a6 I = some Iz → (∀ (H : Heap) (locs : List Loc) (ls : Array Slot), va_P g.1 vwCl (zb_ws g nc (zb_ce g Iz J O)) H → va_S (zb_A g) s.heap H locs → lv_has ls 7 [(4, .int a4), (0, .ref (g.2.2 + b))] → W p l e { frames := 3, cells := 0, slots := 0, locals := 76 } s m args below meth c H locs 0 0 Q (F0 m 150 ls [])) → va_P g.1 vwCl (zb_ws g nc (zb_ce g I J O)) H → va_S (zb_A g) s.heap H locs → lv_has ls 7 [(6, .int a6), (4, .int a4), (0, .ref (g.2.2 + b))] → W p l e { frames := 3, cells := 0, slots := 0, locals := 76 } s m args below meth c H locs 0 0 Q (F0 m 99 ls []) := by
  have hx := X.1.1
  have hb := X.1.2.1
  have ho := X.1.2.2.2.1
  have hts := X.1.2.2.2.2
  have hZ := X.2.2.2
  intro n9
  induction n9 with
  | zero =>
    intro a6 I Iz H locs ls hf
    exact nomatch hf
  | succ n9 ih =>
    intro a6 I Iz H locs ls hf KK hP hS hl
    rw [fX5_blow_L99] at hf
    refine lv_iload hx hb dX5_blow_99 (lv_at hl 0 rfl) ?_
    refine lv_aload_n hx hb dX5_blow_101 rfl (lv_at hl 2 rfl) ?_
    refine gf_X5_12 X hnI hP (zb_b0 hB) dX5_blow_102 ?_
    refine gf_X5_70 X hnI hP (zb_bk (j := 1) hB (by decide) rfl) dX5_blow_105 ?_
    refine lv_icmp_ge (tgt := 150) hx hb dX5_blow_108 (by decide) (fun hc => ?_) (fun hc => ?_)
    · have hf := if_t hc hf
      cases hf
      exact KK H locs ls hP hS (lv_sub hl [1, 2] rfl)
    · have hf := if_f hc hf
      refine lv_iload hx hb dX5_blow_111 (lv_at hl 1 rfl) ?_
      refine lv_iload hx hb dX5_blow_113 (lv_at hl 0 rfl) ?_
      obtain ⟨x8, hx8, hf⟩ := ob_e hf
      refine zr_cNi (rest := []) (As := [.int a4, .int a6]) X hP hS (ct_X7_has (g := g) (nc := nc) (I := I) (J := J) (O := O)  l  hx8) cw_X5_145  rfl hl.1 (Nat.le_of_ble_eq_true rfl) ⟨Nat.le_of_ble_eq_true rfl, Nat.le_of_ble_eq_true rfl⟩ ⟨Nat.le_of_ble_eq_true rfl, Nat.le_of_ble_eq_true rfl⟩ dX5_blow_115 rfl (fun H locs hP hS => ?_)
      obtain ⟨I11, ht, hf⟩ := ob_e hf
      have K2 : ∀ (H : Heap) (locs : List Loc) (ls : Array Slot), va_P g.1 vwCl (zb_ws g nc (zb_ce g I11 J O)) H → va_S (zb_A g) s.heap H locs → lv_has ls 7 [(6, .int a6), (4, .int a4), (0, .ref (g.2.2 + b))] → W p l e { frames := 3, cells := 0, slots := 0, locals := 76 } s m args below meth c H locs 0 0 Q (F0 m 144 ls []) := by
        intro H locs ls hP hS hl
        refine lv_iinc (v := (a6 + (1 : Int32))) (lv' := [(6, .int (a6 + (1 : Int32))), (4, .int a4), (0, .ref (g.2.2 + b))]) hx hb dX5_blow_144 hl (k := 0) rfl rfl (by decide) rfl (fun ls hl => ?_)
        refine lv_goto (tgt := 99) hx hb dX5_blow_147 (by decide) ?_
        exact ih hf KK hP hS (lv_sub hl [0, 1, 2] rfl)
      have hf := ht
      refine lv_if_eq (tgt := 144) hx hb dX5_blow_118 (by decide) (fun hc => ?_) (fun hc => ?_)
      · have hf := if_t hc hf
        cases hf
        exact K2 H locs ls hP hS (lv_sub hl [0, 1, 2] rfl)
      · have hf := if_f hc hf
        refine lv_aload_n hx hb dX5_blow_121 rfl (lv_at hl 2 rfl) ?_
        refine gf_X5_12 X hnI hP (zb_b0 hB) dX5_blow_122 ?_
        refine gf_X5_161 X hnI hP (zb_bk (j := 1) hB (by decide) rfl) dX5_blow_125 ?_
        refine lv_iload hx hb dX5_blow_128 (lv_at hl 0 rfl) ?_
        obtain ⟨x9, hx9, hf⟩ := ob_e hf
        refine zr_aldI X hP hnI (zb_bk (j := 6) hB (by decide) rfl) hx9 dX5_blow_130 ?_
        refine lv_iconst (v := (2 : Int32)) hx hb dX5_blow_131 (by decide) ?_
        refine lv_icmp_eq (tgt := 144) hx hb dX5_blow_132 (by decide) (fun hc => ?_) (fun hc => ?_)
        · have hf := if_t hc hf
          cases hf
          exact K2 H locs ls hP hS (lv_sub hl [0, 1, 2] rfl)
        · have hf := if_f hc hf
          refine lv_aload_n hx hb dX5_blow_135 rfl (lv_at hl 2 rfl) ?_
          refine gf_X5_12 X hnI hP (zb_b0 hB) dX5_blow_136 ?_
          refine lv_iload hx hb dX5_blow_139 (lv_at hl 0 rfl) ?_
          obtain ⟨I10, hI10, hf⟩ := ob_e hf
          refine zr_cVv (rest := []) (As := [.int a6]) X hP hS (ct_X0_putUnderSuspicion (g := g) (nc := nc) (I := I) (J := J) (O := O) hnI l hB hI10) cw_X5_197 (zr_recv X hP (Nat.lt_of_lt_of_le ((zb_bk (j := 1) hB (by decide) rfl)).1 hnI) (zb_ceIo (zb_bk (j := 1) hB (by decide) rfl) (by decide)) rfl) rfl hl.1 (Nat.le_of_ble_eq_true rfl) ⟨Nat.le_of_ble_eq_true rfl, Nat.le_of_ble_eq_true rfl⟩ ⟨Nat.le_of_ble_eq_true rfl, Nat.le_of_ble_eq_true rfl⟩ dX5_blow_141 rfl (fun H locs hP hS => ?_)
          cases hf
          exact K2 H locs ls hP hS (lv_sub hl [0, 1, 2] rfl)
set_option maxHeartbeats 4000000 in
set_option maxRecDepth 100000 in
theorem ct_X5_blow {g : zb_G} {nc : Nat} (hnI : 306 ≤ nc) (l : Launch) {b : Nat} (hB : zb_isB b) {a1 : Int32} {a2 : Int32} {a3 : Int32} {I J O : Mem} {r9 : Int32} {Iq : Mem} (hf : fX5_blow b a1 a2 a3 I = some (r9, Iq)) : zb_Ct l g nc yX5_blow cX5_blow 7 (some .int) 3 76 [.ref (g.2.2 + b), .int a1, .int a2, .int a3] (zb_ce g I J O) (some (.int r9)) (zb_ce g Iq J O) := by
  refine zb_ofW (own := RX5) (by decide +kernel) rfl (Nat.le_of_ble_eq_true rfl) ?_
  intro p e s m args below meth c ls X hr hP hl
  have hx := X.1.1
  have hb := X.1.2.1
  have ho := X.1.2.2.2.1
  have hts := X.1.2.2.2.2
  have hZ := X.2.2.2
  have hl : lv_has ls 7 [(0, .ref (g.2.2 + b)), (1, .int a1), (2, .int a2), (3, .int a3)] := hl
  have hS : va_S (zb_A g) s.heap s.heap [] := va_S.rf
  obtain ⟨H, hH⟩ : ∃ H, H = s.heap := ⟨_, rfl⟩
  obtain ⟨locs, hlocs⟩ : ∃ z : List Loc, z = [] := ⟨_, rfl⟩
  rw [← hH] at hP
  have hS : va_S (zb_A g) s.heap H locs := by rw [hH, hlocs]; exact hS
  show W p l e _ s m args below meth c s.heap [] 0 0 _ _
  rw [← hH, ← hlocs]
  rw [fX5_blow] at hf
  refine lv_aload_n hx hb dX5_blow_0 rfl (lv_at hl 0 rfl) ?_
  refine lv_iload_n hx hb dX5_blow_1 rfl (lv_at hl 1 rfl) ?_
  refine lv_iload_n hx hb dX5_blow_2 rfl (lv_at hl 2 rfl) ?_
  refine lv_iload_n hx hb dX5_blow_3 rfl (lv_at hl 3 rfl) ?_
  obtain ⟨x1, hx1, hf⟩ := ob_e hf
  refine zr_cVi (rest := []) (As := [.int a1, .int a2, .int a3]) X hP hS (ct_X5_drifting (g := g) (nc := nc) (I := I) (J := J) (O := O) hnI l hB hx1) cw_X5_194 (zr_recv X hP (Nat.lt_of_lt_of_le ((zb_b0 hB)).1 hnI) (zb_ceIo (zb_b0 hB) (by decide)) rfl) rfl hl.1 (Nat.le_of_ble_eq_true rfl) ⟨Nat.le_of_ble_eq_true rfl, Nat.le_of_ble_eq_true rfl⟩ ⟨Nat.le_of_ble_eq_true rfl, Nat.le_of_ble_eq_true rfl⟩ dX5_blow_4 rfl (fun H locs hP hS => ?_)
  refine lv_istore (lv' := [(4, .int x1), (0, .ref (g.2.2 + b)), (1, .int a1), (2, .int a2), (3, .int a3)]) hx hb dX5_blow_7 hl (by decide) rfl (fun ls hl => ?_)
  refine lv_aload_n hx hb dX5_blow_9 rfl (lv_at hl 1 rfl) ?_
  refine lv_iload_n hx hb dX5_blow_10 rfl (lv_at hl 2 rfl) ?_
  refine lv_iload_n hx hb dX5_blow_11 rfl (lv_at hl 3 rfl) ?_
  refine lv_iload_n hx hb dX5_blow_12 rfl (lv_at hl 4 rfl) ?_
  obtain ⟨x2, hx2, hf⟩ := ob_e hf
  refine zr_cVi (rest := []) (As := [.int a1, .int a2, .int a3]) X hP hS (ct_X5_breaking (g := g) (nc := nc) (I := I) (J := J) (O := O) hnI l hB hx2) cw_X5_184 (zr_recv X hP (Nat.lt_of_lt_of_le ((zb_b0 hB)).1 hnI) (zb_ceIo (zb_b0 hB) (by decide)) rfl) rfl hl.1 (Nat.le_of_ble_eq_true rfl) ⟨Nat.le_of_ble_eq_true rfl, Nat.le_of_ble_eq_true rfl⟩ ⟨Nat.le_of_ble_eq_true rfl, Nat.le_of_ble_eq_true rfl⟩ dX5_blow_13 rfl (fun H locs hP hS => ?_)
  refine lv_istore (lv' := [(5, .int x2), (4, .int x1), (0, .ref (g.2.2 + b)), (1, .int a1), (2, .int a2), (3, .int a3)]) hx hb dX5_blow_16 hl (by decide) rfl (fun ls hl => ?_)
  refine lv_iconst (v := (0 : Int32)) hx hb dX5_blow_18 (by decide) ?_
  refine lv_istore (lv' := [(6, .int (0 : Int32)), (5, .int x2), (4, .int x1), (0, .ref (g.2.2 + b)), (1, .int a1), (2, .int a2), (3, .int a3)]) hx hb dX5_blow_19 hl (by decide) rfl (fun ls hl => ?_)
  obtain ⟨I7, hI7, hf⟩ := ob_e hf
  have K3 : ∀ (H : Heap) (locs : List Loc) (ls : Array Slot), va_P g.1 vwCl (zb_ws g nc (zb_ce g I7 J O)) H → va_S (zb_A g) s.heap H locs → lv_has ls 7 [(5, .int x2), (4, .int x1), (0, .ref (g.2.2 + b))] → W p l e { frames := 3, cells := 0, slots := 0, locals := 76 } s m args below meth c H locs 0 0 (MQ below (zb_Po g nc (zb_ce g Iq J O) (some (.int r9))) args s 0 0 (zb_A g)) (F0 m 82 ls []) := by
    intro H locs ls hP hS hl
    refine lv_aload_n hx hb dX5_blow_82 rfl (lv_at hl 2 rfl) ?_
    refine gf_X5_21 X hnI hP (zb_b0 hB) dX5_blow_83 ?_
    refine lv_dup hx hb dX5_blow_86 rfl ?_
    refine gf_X5_175 X hnI hP (zb_bk (j := 11) hB (by decide) rfl) dX5_blow_87 ?_
    refine lv_iload hx hb dX5_blow_90 (lv_at hl 0 rfl) ?_
    refine lv_ior hx hb dX5_blow_92 ?_
    refine pf_X5_175 X hnI hP hS (zb_bk (j := 11) hB (by decide) rfl) dX5_blow_93 (fun H locs hP hS => ?_)
    refine lv_iconst (v := (0 : Int32)) hx hb dX5_blow_96 (by decide) ?_
    refine lv_istore (lv' := [(6, .int (0 : Int32)), (5, .int x2), (4, .int x1), (0, .ref (g.2.2 + b))]) hx hb dX5_blow_97 hl (by decide) rfl (fun ls hl => ?_)
    obtain ⟨I12, hI12, hf⟩ := ob_e hf
    have K4 : ∀ (H : Heap) (locs : List Loc) (ls : Array Slot), va_P g.1 vwCl (zb_ws g nc (zb_ce g I12 J O)) H → va_S (zb_A g) s.heap H locs → lv_has ls 7 [(4, .int x1), (0, .ref (g.2.2 + b))] → W p l e { frames := 3, cells := 0, slots := 0, locals := 76 } s m args below meth c H locs 0 0 (MQ below (zb_Po g nc (zb_ce g Iq J O) (some (.int r9))) args s 0 0 (zb_A g)) (F0 m 150 ls []) := by
      intro H locs ls hP hS hl
      refine lv_aload_n hx hb dX5_blow_150 rfl (lv_at hl 1 rfl) ?_
      refine lv_dup hx hb dX5_blow_151 rfl ?_
      refine gf_X5_48 X hnI hP (zb_b0 hB) dX5_blow_152 ?_
      refine lv_iconst (v := (1 : Int32)) hx hb dX5_blow_155 (by decide) ?_
      refine lv_iadd hx hb dX5_blow_156 ?_
      refine pf_X5_48 X hnI hP hS (zb_b0 hB) dX5_blow_157 (fun H locs hP hS => ?_)
      refine lv_iload hx hb dX5_blow_160 (lv_at hl 0 rfl) ?_
      cases hf
      exact zr_iret X hr hP hS dX5_blow_162
    exact lpX5_blow_L99 hnI l hB X hI12 K4 hP hS (lv_sub hl [0, 2, 3] rfl)
  exact lpX5_blow_L21 hnI l hB X hI7 K3 hP hS (lv_sub hl [0, 1, 2, 3, 4, 5, 6] rfl)
set_option maxHeartbeats 4000000 in
set_option maxRecDepth 100000 in
theorem lpX5_lacking_L8 {g : zb_G} {nc : Nat} (hnI : 306 ≤ nc) (l : Launch) {b : Nat} (hB : zb_isB b) {a1 : Int32} {a2 : Int32} {J O : Mem} {p : Program} {e : Env} {s : State} {m : MethodId} {args : Array Value} {below : List Frame} {meth : Method} {c : Code} {Q : State → Prop} (X : zb_X g p m c cX5_lacking 6 s args RX5 meth) : ∀ {n9 : Nat} {a5 : Int32} {a4 : Int32} {a3 : Int32} {I : Mem} {z3 : Int32} {H : Heap} {locs : List Loc} {ls : Array Slot}, fX5_lacking_L8 b a1 a2 n9 a5 a4 a3 I = some z3 → (∀ (H : Heap) (locs : List Loc) (ls : Array Slot), va_P g.1 vwCl (zb_ws g nc (zb_ce g I J O)) H → va_S (zb_A g) s.heap H locs → lv_has ls 6 [(3, .int z3)] → W p l e { frames := 2, cells := 0, slots := 0, locals := 43 } s m args below meth c H locs 0 0 Q (F0 m 65 ls [])) → va_P g.1 vwCl (zb_ws g nc (zb_ce g I J O)) H → va_S (zb_A g) s.heap H locs → lv_has ls 6 [(5, .int a5), (4, .int a4), (3, .int a3), (0, .ref (g.2.2 + b)), (1, .int a1), (2, .int a2)] → W p l e { frames := 2, cells := 0, slots := 0, locals := 43 } s m args below meth c H locs 0 0 Q (F0 m 8 ls []) := by
  have hx := X.1.1
  have hb := X.1.2.1
  have ho := X.1.2.2.2.1
  have hts := X.1.2.2.2.2
  have hZ := X.2.2.2
  intro n9
  induction n9 with
  | zero =>
    intro a5 a4 a3 I z3 H locs ls hf
    exact nomatch hf
  | succ n9 ih =>
    intro a5 a4 a3 I z3 H locs ls hf KK hP hS hl
    rw [fX5_lacking_L8] at hf
    refine lv_iload hx hb dX5_lacking_8 (lv_at hl 0 rfl) ?_
    refine lv_aload_n hx hb dX5_lacking_10 rfl (lv_at hl 3 rfl) ?_
    refine gf_X5_12 X hnI hP (zb_b0 hB) dX5_lacking_11 ?_
    refine gf_X5_70 X hnI hP (zb_bk (j := 1) hB (by decide) rfl) dX5_lacking_14 ?_
    refine lv_icmp_ge (tgt := 65) hx hb dX5_lacking_17 (by decide) (fun hc => ?_) (fun hc => ?_)
    · have hf := if_t hc hf
      cases hf
      exact KK H locs ls hP hS (lv_sub hl [2] rfl)
    · have hf := if_f hc hf
      refine lv_iload hx hb dX5_lacking_20 (lv_at hl 1 rfl) ?_
      refine lv_iload_n hx hb dX5_lacking_22 rfl (lv_at hl 4 rfl) ?_
      refine lv_aload_n hx hb dX5_lacking_23 rfl (lv_at hl 3 rfl) ?_
      refine gf_X5_12 X hnI hP (zb_b0 hB) dX5_lacking_24 ?_
      refine gf_X5_188 X hnI hP (zb_bk (j := 1) hB (by decide) rfl) dX5_lacking_27 ?_
      refine lv_iload hx hb dX5_lacking_30 (lv_at hl 0 rfl) ?_
      obtain ⟨x1, hx1, hf⟩ := ob_e hf
      refine zr_aldI X hP hnI (zb_bk (j := 4) hB (by decide) rfl) hx1 dX5_lacking_32 ?_
      refine lv_isub hx hb dX5_lacking_33 ?_
      refine lv_iadd hx hb dX5_lacking_34 ?_
      refine lv_istore (lv' := [(4, .int (a4 + (a1 - x1))), (5, .int a5), (3, .int a3), (0, .ref (g.2.2 + b)), (1, .int a1), (2, .int a2)]) hx hb dX5_lacking_35 hl (by decide) rfl (fun ls hl => ?_)
      refine lv_aload_n hx hb dX5_lacking_37 rfl (lv_at hl 3 rfl) ?_
      refine lv_iload hx hb dX5_lacking_38 (lv_at hl 1 rfl) ?_
      refine lv_iload_n hx hb dX5_lacking_40 rfl (lv_at hl 5 rfl) ?_
      obtain ⟨x2, hx2, hf⟩ := ob_e hf
      refine zr_cVi (rest := []) (As := [.int a5, .int a2]) X hP hS (ct_X5_endsSegment (g := g) (nc := nc) (I := I) (J := J) (O := O) hnI l hB hx2) cw_X5_191 (zr_recv X hP (Nat.lt_of_lt_of_le ((zb_b0 hB)).1 hnI) (zb_ceIo (zb_b0 hB) (by decide)) rfl) rfl hl.1 (Nat.le_of_ble_eq_true rfl) ⟨Nat.le_of_ble_eq_true rfl, Nat.le_of_ble_eq_true rfl⟩ ⟨Nat.le_of_ble_eq_true rfl, Nat.le_of_ble_eq_true rfl⟩ dX5_lacking_41 rfl (fun H locs hP hS => ?_)
      obtain ⟨x3, x4, ht, hf⟩ := pl2_e hf
      have K1 : ∀ (H : Heap) (locs : List Loc) (ls : Array Slot), va_P g.1 vwCl (zb_ws g nc (zb_ce g I J O)) H → va_S (zb_A g) s.heap H locs → lv_has ls 6 [(4, .int x3), (5, .int a5), (3, .int x4), (0, .ref (g.2.2 + b)), (1, .int a1), (2, .int a2)] → W p l e { frames := 2, cells := 0, slots := 0, locals := 43 } s m args below meth c H locs 0 0 Q (F0 m 59 ls []) := by
        intro H locs ls hP hS hl
        refine lv_iinc (v := (a5 + (1 : Int32))) (lv' := [(5, .int (a5 + (1 : Int32))), (4, .int x3), (3, .int x4), (0, .ref (g.2.2 + b)), (1, .int a1), (2, .int a2)]) hx hb dX5_lacking_59 hl (k := 1) rfl rfl (by decide) rfl (fun ls hl => ?_)
        refine lv_goto (tgt := 8) hx hb dX5_lacking_62 (by decide) ?_
        exact ih hf KK hP hS (lv_sub hl [0, 1, 2, 3, 4, 5] rfl)
      have hf := ht
      refine lv_if_eq (tgt := 59) hx hb dX5_lacking_44 (by decide) (fun hc => ?_) (fun hc => ?_)
      · have hf := if_t hc hf
        cases hf
        exact K1 H locs ls hP hS (lv_sub hl [0, 1, 2, 3, 4, 5] rfl)
      · have hf := if_f hc hf
        refine lv_iload_n hx hb dX5_lacking_47 rfl (lv_at hl 2 rfl) ?_
        refine lv_iconst (v := (0 : Int32)) hx hb dX5_lacking_48 (by decide) ?_
        refine lv_iload hx hb dX5_lacking_49 (lv_at hl 0 rfl) ?_
        refine zr_max X wk_X5_79 wm_max1 wm_max2 wm_max3 hl.1 (Nat.le_of_ble_eq_true rfl) (Nat.le_of_ble_eq_true rfl) ⟨Nat.le_of_ble_eq_true rfl, Nat.le_of_ble_eq_true rfl⟩ dX5_lacking_51 ?_
        refine lv_iadd hx hb dX5_lacking_54 ?_
        refine lv_istore_n (lv' := [(3, .int (a3 + (imax (0 : Int32) (a4 + (a1 - x1))))), (4, .int (a4 + (a1 - x1))), (5, .int a5), (0, .ref (g.2.2 + b)), (1, .int a1), (2, .int a2)]) hx hb dX5_lacking_55 rfl hl (by decide) rfl (fun ls hl => ?_)
        refine lv_iconst (v := (0 : Int32)) hx hb dX5_lacking_56 (by decide) ?_
        refine lv_istore (lv' := [(4, .int (0 : Int32)), (3, .int (a3 + (imax (0 : Int32) (a4 + (a1 - x1))))), (5, .int a5), (0, .ref (g.2.2 + b)), (1, .int a1), (2, .int a2)]) hx hb dX5_lacking_57 hl (by decide) rfl (fun ls hl => ?_)
        cases hf
        exact K1 H locs ls hP hS (lv_sub hl [0, 2, 1, 3, 4, 5] rfl)
set_option maxHeartbeats 4000000 in
set_option maxRecDepth 100000 in
theorem ct_X5_lacking {g : zb_G} {nc : Nat} (hnI : 306 ≤ nc) (l : Launch) {b : Nat} (hB : zb_isB b) {a1 : Int32} {a2 : Int32} {I J O : Mem} {r9 : Int32} (hf : fX5_lacking b a1 a2 I = some r9) : zb_Ct l g nc yX5_lacking cX5_lacking 6 (some .int) 2 43 [.ref (g.2.2 + b), .int a1, .int a2] (zb_ce g I J O) (some (.int r9)) (zb_ce g I J O) := by
  refine zb_ofW (own := RX5) (by decide +kernel) rfl (Nat.le_of_ble_eq_true rfl) ?_
  intro p e s m args below meth c ls X hr hP hl
  have hx := X.1.1
  have hb := X.1.2.1
  have ho := X.1.2.2.2.1
  have hts := X.1.2.2.2.2
  have hZ := X.2.2.2
  have hl : lv_has ls 6 [(0, .ref (g.2.2 + b)), (1, .int a1), (2, .int a2)] := hl
  have hS : va_S (zb_A g) s.heap s.heap [] := va_S.rf
  obtain ⟨H, hH⟩ : ∃ H, H = s.heap := ⟨_, rfl⟩
  obtain ⟨locs, hlocs⟩ : ∃ z : List Loc, z = [] := ⟨_, rfl⟩
  rw [← hH] at hP
  have hS : va_S (zb_A g) s.heap H locs := by rw [hH, hlocs]; exact hS
  show W p l e _ s m args below meth c s.heap [] 0 0 _ _
  rw [← hH, ← hlocs]
  rw [fX5_lacking] at hf
  refine lv_iconst (v := (0 : Int32)) hx hb dX5_lacking_0 (by decide) ?_
  refine lv_istore_n (lv' := [(3, .int (0 : Int32)), (0, .ref (g.2.2 + b)), (1, .int a1), (2, .int a2)]) hx hb dX5_lacking_1 rfl hl (by decide) rfl (fun ls hl => ?_)
  refine lv_iconst (v := (0 : Int32)) hx hb dX5_lacking_2 (by decide) ?_
  refine lv_istore (lv' := [(4, .int (0 : Int32)), (3, .int (0 : Int32)), (0, .ref (g.2.2 + b)), (1, .int a1), (2, .int a2)]) hx hb dX5_lacking_3 hl (by decide) rfl (fun ls hl => ?_)
  refine lv_iconst (v := (0 : Int32)) hx hb dX5_lacking_5 (by decide) ?_
  refine lv_istore (lv' := [(5, .int (0 : Int32)), (4, .int (0 : Int32)), (3, .int (0 : Int32)), (0, .ref (g.2.2 + b)), (1, .int a1), (2, .int a2)]) hx hb dX5_lacking_6 hl (by decide) rfl (fun ls hl => ?_)
  obtain ⟨x5, hx5, hf⟩ := ob_e hf
  have K2 : ∀ (H : Heap) (locs : List Loc) (ls : Array Slot), va_P g.1 vwCl (zb_ws g nc (zb_ce g I J O)) H → va_S (zb_A g) s.heap H locs → lv_has ls 6 [(3, .int x5)] → W p l e { frames := 2, cells := 0, slots := 0, locals := 43 } s m args below meth c H locs 0 0 (MQ below (zb_Po g nc (zb_ce g I J O) (some (.int r9))) args s 0 0 (zb_A g)) (F0 m 65 ls []) := by
    intro H locs ls hP hS hl
    refine lv_iload_n hx hb dX5_lacking_65 rfl (lv_at hl 0 rfl) ?_
    cases hf
    exact zr_iret X hr hP hS dX5_lacking_66
  exact lpX5_lacking_L8 hnI l hB X hx5 K2 hP hS (lv_sub hl [0, 1, 2, 3, 4, 5] rfl)
set_option maxHeartbeats 4000000 in
set_option maxRecDepth 100000 in
theorem lpX5_lengthOf_L4 {g : zb_G} {nc : Nat} (hnI : 306 ≤ nc) (l : Launch) {b : Nat} (hB : zb_isB b) {a1 : Int32} {J O : Mem} {p : Program} {e : Env} {s : State} {m : MethodId} {args : Array Value} {below : List Frame} {meth : Method} {c : Code} {Q : State → Prop} (X : zb_X g p m c cX5_lengthOf 4 s args RX5 meth) : ∀ {n9 : Nat} {a3 : Int32} {a2 : Int32} {I : Mem} {z2 : Int32} {H : Heap} {locs : List Loc} {ls : Array Slot}, fX5_lengthOf_L4 b a1 n9 a3 a2 I = some z2 → (∀ (H : Heap) (locs : List Loc) (ls : Array Slot), va_P g.1 vwCl (zb_ws g nc (zb_ce g I J O)) H → va_S (zb_A g) s.heap H locs → lv_has ls 4 [(2, .int z2)] → W p l e { frames := 1, cells := 0, slots := 0, locals := 21 } s m args below meth c H locs 0 0 Q (F0 m 42 ls [])) → va_P g.1 vwCl (zb_ws g nc (zb_ce g I J O)) H → va_S (zb_A g) s.heap H locs → lv_has ls 4 [(3, .int a3), (2, .int a2), (0, .ref (g.2.2 + b)), (1, .int a1)] → W p l e { frames := 1, cells := 0, slots := 0, locals := 21 } s m args below meth c H locs 0 0 Q (F0 m 4 ls []) := by
  have hx := X.1.1
  have hb := X.1.2.1
  have ho := X.1.2.2.2.1
  have hts := X.1.2.2.2.2
  have hZ := X.2.2.2
  intro n9
  induction n9 with
  | zero =>
    intro a3 a2 I z2 H locs ls hf
    exact nomatch hf
  | succ n9 ih =>
    intro a3 a2 I z2 H locs ls hf KK hP hS hl
    rw [fX5_lengthOf_L4] at hf
    refine lv_iload_n hx hb dX5_lengthOf_4 rfl (lv_at hl 0 rfl) ?_
    refine lv_aload_n hx hb dX5_lengthOf_5 rfl (lv_at hl 2 rfl) ?_
    refine gf_X5_12 X hnI hP (zb_b0 hB) dX5_lengthOf_6 ?_
    refine gf_X5_70 X hnI hP (zb_bk (j := 1) hB (by decide) rfl) dX5_lengthOf_9 ?_
    refine lv_iconst (v := (1 : Int32)) hx hb dX5_lengthOf_12 (by decide) ?_
    refine lv_isub hx hb dX5_lengthOf_13 ?_
    refine lv_icmp_ge (tgt := 42) hx hb dX5_lengthOf_14 (by decide) (fun hc => ?_) (fun hc => ?_)
    · have hf := if_t hc hf
      cases hf
      exact KK H locs ls hP hS (lv_sub hl [1] rfl)
    · have hf := if_f hc hf
      refine lv_iload_n hx hb dX5_lengthOf_17 rfl (lv_at hl 3 rfl) ?_
      refine lv_iload_n hx hb dX5_lengthOf_18 rfl (lv_at hl 0 rfl) ?_
      obtain ⟨x1, hx1, hf⟩ := ob_e hf
      refine zr_cNi (rest := []) (As := [.int a1, .int a3]) X hP hS (ct_X7_has (g := g) (nc := nc) (I := I) (J := J) (O := O)  l  hx1) cw_X5_145  rfl hl.1 (Nat.le_of_ble_eq_true rfl) ⟨Nat.le_of_ble_eq_true rfl, Nat.le_of_ble_eq_true rfl⟩ ⟨Nat.le_of_ble_eq_true rfl, Nat.le_of_ble_eq_true rfl⟩ dX5_lengthOf_19 rfl (fun H locs hP hS => ?_)
      obtain ⟨x3, ht, hf⟩ := ob_e hf
      have K1 : ∀ (H : Heap) (locs : List Loc) (ls : Array Slot), va_P g.1 vwCl (zb_ws g nc (zb_ce g I J O)) H → va_S (zb_A g) s.heap H locs → lv_has ls 4 [(3, .int a3), (2, .int x3), (0, .ref (g.2.2 + b)), (1, .int a1)] → W p l e { frames := 1, cells := 0, slots := 0, locals := 21 } s m args below meth c H locs 0 0 Q (F0 m 36 ls []) := by
        intro H locs ls hP hS hl
        refine lv_iinc (v := (a3 + (1 : Int32))) (lv' := [(3, .int (a3 + (1 : Int32))), (2, .int x3), (0, .ref (g.2.2 + b)), (1, .int a1)]) hx hb dX5_lengthOf_36 hl (k := 0) rfl rfl (by decide) rfl (fun ls hl => ?_)
        refine lv_goto (tgt := 4) hx hb dX5_lengthOf_39 (by decide) ?_
        exact ih hf KK hP hS (lv_sub hl [0, 1, 2, 3] rfl)
      have hf := ht
      refine lv_if_eq (tgt := 36) hx hb dX5_lengthOf_22 (by decide) (fun hc => ?_) (fun hc => ?_)
      · have hf := if_t hc hf
        cases hf
        exact K1 H locs ls hP hS (lv_sub hl [0, 1, 2, 3] rfl)
      · have hf := if_f hc hf
        refine lv_iload_n hx hb dX5_lengthOf_25 rfl (lv_at hl 1 rfl) ?_
        refine lv_aload_n hx hb dX5_lengthOf_26 rfl (lv_at hl 2 rfl) ?_
        refine gf_X5_12 X hnI hP (zb_b0 hB) dX5_lengthOf_27 ?_
        refine lv_iload_n hx hb dX5_lengthOf_30 rfl (lv_at hl 0 rfl) ?_
        obtain ⟨x2, hx2, hf⟩ := ob_e hf
        refine zr_cVi (rest := [.int a2]) (As := [.int a3]) X hP hS (ct_X0_distanceBehind (g := g) (nc := nc) (I := I) (J := J) (O := O) hnI l hB hx2) cw_X5_201 (zr_recv X hP (Nat.lt_of_lt_of_le ((zb_bk (j := 1) hB (by decide) rfl)).1 hnI) (zb_ceIo (zb_bk (j := 1) hB (by decide) rfl) (by decide)) rfl) rfl hl.1 (Nat.le_of_ble_eq_true rfl) ⟨Nat.le_of_ble_eq_true rfl, Nat.le_of_ble_eq_true rfl⟩ ⟨Nat.le_of_ble_eq_true rfl, Nat.le_of_ble_eq_true rfl⟩ dX5_lengthOf_31 rfl (fun H locs hP hS => ?_)
        refine lv_iadd hx hb dX5_lengthOf_34 ?_
        refine lv_istore_n (lv' := [(2, .int (a2 + x2)), (3, .int a3), (0, .ref (g.2.2 + b)), (1, .int a1)]) hx hb dX5_lengthOf_35 rfl hl (by decide) rfl (fun ls hl => ?_)
        cases hf
        exact K1 H locs ls hP hS (lv_sub hl [1, 0, 2, 3] rfl)
set_option maxHeartbeats 4000000 in
set_option maxRecDepth 100000 in
theorem ct_X5_lengthOf {g : zb_G} {nc : Nat} (hnI : 306 ≤ nc) (l : Launch) {b : Nat} (hB : zb_isB b) {a1 : Int32} {I J O : Mem} {r9 : Int32} (hf : fX5_lengthOf b a1 I = some r9) : zb_Ct l g nc yX5_lengthOf cX5_lengthOf 4 (some .int) 1 21 [.ref (g.2.2 + b), .int a1] (zb_ce g I J O) (some (.int r9)) (zb_ce g I J O) := by
  refine zb_ofW (own := RX5) (by decide +kernel) rfl (Nat.le_of_ble_eq_true rfl) ?_
  intro p e s m args below meth c ls X hr hP hl
  have hx := X.1.1
  have hb := X.1.2.1
  have ho := X.1.2.2.2.1
  have hts := X.1.2.2.2.2
  have hZ := X.2.2.2
  have hl : lv_has ls 4 [(0, .ref (g.2.2 + b)), (1, .int a1)] := hl
  have hS : va_S (zb_A g) s.heap s.heap [] := va_S.rf
  obtain ⟨H, hH⟩ : ∃ H, H = s.heap := ⟨_, rfl⟩
  obtain ⟨locs, hlocs⟩ : ∃ z : List Loc, z = [] := ⟨_, rfl⟩
  rw [← hH] at hP
  have hS : va_S (zb_A g) s.heap H locs := by rw [hH, hlocs]; exact hS
  show W p l e _ s m args below meth c s.heap [] 0 0 _ _
  rw [← hH, ← hlocs]
  rw [fX5_lengthOf] at hf
  refine lv_iconst (v := (0 : Int32)) hx hb dX5_lengthOf_0 (by decide) ?_
  refine lv_istore_n (lv' := [(2, .int (0 : Int32)), (0, .ref (g.2.2 + b)), (1, .int a1)]) hx hb dX5_lengthOf_1 rfl hl (by decide) rfl (fun ls hl => ?_)
  refine lv_iconst (v := (0 : Int32)) hx hb dX5_lengthOf_2 (by decide) ?_
  refine lv_istore_n (lv' := [(3, .int (0 : Int32)), (2, .int (0 : Int32)), (0, .ref (g.2.2 + b)), (1, .int a1)]) hx hb dX5_lengthOf_3 rfl hl (by decide) rfl (fun ls hl => ?_)
  obtain ⟨x4, hx4, hf⟩ := ob_e hf
  have K2 : ∀ (H : Heap) (locs : List Loc) (ls : Array Slot), va_P g.1 vwCl (zb_ws g nc (zb_ce g I J O)) H → va_S (zb_A g) s.heap H locs → lv_has ls 4 [(2, .int x4)] → W p l e { frames := 1, cells := 0, slots := 0, locals := 21 } s m args below meth c H locs 0 0 (MQ below (zb_Po g nc (zb_ce g I J O) (some (.int r9))) args s 0 0 (zb_A g)) (F0 m 42 ls []) := by
    intro H locs ls hP hS hl
    refine lv_iload_n hx hb dX5_lengthOf_42 rfl (lv_at hl 0 rfl) ?_
    cases hf
    exact zr_iret X hr hP hS dX5_lengthOf_43
  exact lpX5_lengthOf_L4 hnI l hB X hx4 K2 hP hS (lv_sub hl [0, 1, 2, 3] rfl)
set_option maxHeartbeats 4000000 in
set_option maxRecDepth 100000 in
theorem ct_J6_bitCount_0f7a4 {g : zb_G} {nc : Nat} (l : Launch) {a0 : Int32} {I J O : Mem} {r9 : Int32} (hf : fJ6_bitCount_0f7a4 a0 = some r9) : zb_Ct l g nc yJ6_bitCount_0f7a4 cJ6_bitCount_0f7a4 1 (some .int) 0 0 [.int a0] (zb_ce g I J O) (some (.int r9)) (zb_ce g I J O) := by
  refine zb_ofW (own := RJ6) (by decide +kernel) rfl (Nat.le_of_ble_eq_true rfl) ?_
  intro p e s m args below meth c ls X hr hP hl
  have hx := X.1.1
  have hb := X.1.2.1
  have ho := X.1.2.2.2.1
  have hts := X.1.2.2.2.2
  have hZ := X.2.2.2
  have hl : lv_has ls 1 [(0, .int a0)] := hl
  have hS : va_S (zb_A g) s.heap s.heap [] := va_S.rf
  obtain ⟨H, hH⟩ : ∃ H, H = s.heap := ⟨_, rfl⟩
  obtain ⟨locs, hlocs⟩ : ∃ z : List Loc, z = [] := ⟨_, rfl⟩
  rw [← hH] at hP
  have hS : va_S (zb_A g) s.heap H locs := by rw [hH, hlocs]; exact hS
  show W p l e _ s m args below meth c s.heap [] 0 0 _ _
  rw [← hH, ← hlocs]
  rw [fJ6_bitCount_0f7a4] at hf
  refine lv_iload_n hx hb dJ6_bitCount_0f7a4_0 rfl (lv_at hl 0 rfl) ?_
  refine lv_iload_n hx hb dJ6_bitCount_0f7a4_1 rfl (lv_at hl 0 rfl) ?_
  refine lv_iconst (v := (1 : Int32)) hx hb dJ6_bitCount_0f7a4_2 (by decide) ?_
  refine lv_iushr (v := (a0.toUInt32 >>> ((1 : Int32).toUInt32 &&& Int32.toUInt32 31)).toInt32) hx hb dJ6_bitCount_0f7a4_3 rfl ?_
  refine lv_ldcw (v := (1431655765 : Int32)) hx hb ho (hts _ wk_J6_265) dJ6_bitCount_0f7a4_4 ?_
  refine lv_iand hx hb dJ6_bitCount_0f7a4_7 ?_
  refine lv_isub hx hb dJ6_bitCount_0f7a4_8 ?_
  refine lv_istore_n (lv' := [(0, .int (a0 - ((a0.toUInt32 >>> ((1 : Int32).toUInt32 &&& Int32.toUInt32 31)).toInt32 &&& (1431655765 : Int32))))]) hx hb dJ6_bitCount_0f7a4_9 rfl hl (by decide) rfl (fun ls hl => ?_)
  refine lv_iload_n hx hb dJ6_bitCount_0f7a4_10 rfl (lv_at hl 0 rfl) ?_
  refine lv_ldcw (v := (858993459 : Int32)) hx hb ho (hts _ wk_J6_266) dJ6_bitCount_0f7a4_11 ?_
  refine lv_iand hx hb dJ6_bitCount_0f7a4_14 ?_
  refine lv_iload_n hx hb dJ6_bitCount_0f7a4_15 rfl (lv_at hl 0 rfl) ?_
  refine lv_iconst (v := (2 : Int32)) hx hb dJ6_bitCount_0f7a4_16 (by decide) ?_
  refine lv_iushr (v := ((a0 - ((a0.toUInt32 >>> ((1 : Int32).toUInt32 &&& Int32.toUInt32 31)).toInt32 &&& (1431655765 : Int32))).toUInt32 >>> ((2 : Int32).toUInt32 &&& Int32.toUInt32 31)).toInt32) hx hb dJ6_bitCount_0f7a4_17 rfl ?_
  refine lv_ldcw (v := (858993459 : Int32)) hx hb ho (hts _ wk_J6_266) dJ6_bitCount_0f7a4_18 ?_
  refine lv_iand hx hb dJ6_bitCount_0f7a4_21 ?_
  refine lv_iadd hx hb dJ6_bitCount_0f7a4_22 ?_
  refine lv_istore_n (lv' := [(0, .int (((a0 - ((a0.toUInt32 >>> ((1 : Int32).toUInt32 &&& Int32.toUInt32 31)).toInt32 &&& (1431655765 : Int32))) &&& (858993459 : Int32)) + (((a0 - ((a0.toUInt32 >>> ((1 : Int32).toUInt32 &&& Int32.toUInt32 31)).toInt32 &&& (1431655765 : Int32))).toUInt32 >>> ((2 : Int32).toUInt32 &&& Int32.toUInt32 31)).toInt32 &&& (858993459 : Int32))))]) hx hb dJ6_bitCount_0f7a4_23 rfl hl (by decide) rfl (fun ls hl => ?_)
  refine lv_iload_n hx hb dJ6_bitCount_0f7a4_24 rfl (lv_at hl 0 rfl) ?_
  refine lv_iload_n hx hb dJ6_bitCount_0f7a4_25 rfl (lv_at hl 0 rfl) ?_
  refine lv_iconst (v := (4 : Int32)) hx hb dJ6_bitCount_0f7a4_26 (by decide) ?_
  refine lv_iushr (v := ((((a0 - ((a0.toUInt32 >>> ((1 : Int32).toUInt32 &&& Int32.toUInt32 31)).toInt32 &&& (1431655765 : Int32))) &&& (858993459 : Int32)) + (((a0 - ((a0.toUInt32 >>> ((1 : Int32).toUInt32 &&& Int32.toUInt32 31)).toInt32 &&& (1431655765 : Int32))).toUInt32 >>> ((2 : Int32).toUInt32 &&& Int32.toUInt32 31)).toInt32 &&& (858993459 : Int32))).toUInt32 >>> ((4 : Int32).toUInt32 &&& Int32.toUInt32 31)).toInt32) hx hb dJ6_bitCount_0f7a4_27 rfl ?_
  refine lv_iadd hx hb dJ6_bitCount_0f7a4_28 ?_
  refine lv_ldcw (v := (252645135 : Int32)) hx hb ho (hts _ wk_J6_267) dJ6_bitCount_0f7a4_29 ?_
  refine lv_iand hx hb dJ6_bitCount_0f7a4_32 ?_
  refine lv_istore_n (lv' := [(0, .int (((((a0 - ((a0.toUInt32 >>> ((1 : Int32).toUInt32 &&& Int32.toUInt32 31)).toInt32 &&& (1431655765 : Int32))) &&& (858993459 : Int32)) + (((a0 - ((a0.toUInt32 >>> ((1 : Int32).toUInt32 &&& Int32.toUInt32 31)).toInt32 &&& (1431655765 : Int32))).toUInt32 >>> ((2 : Int32).toUInt32 &&& Int32.toUInt32 31)).toInt32 &&& (858993459 : Int32))) + ((((a0 - ((a0.toUInt32 >>> ((1 : Int32).toUInt32 &&& Int32.toUInt32 31)).toInt32 &&& (1431655765 : Int32))) &&& (858993459 : Int32)) + (((a0 - ((a0.toUInt32 >>> ((1 : Int32).toUInt32 &&& Int32.toUInt32 31)).toInt32 &&& (1431655765 : Int32))).toUInt32 >>> ((2 : Int32).toUInt32 &&& Int32.toUInt32 31)).toInt32 &&& (858993459 : Int32))).toUInt32 >>> ((4 : Int32).toUInt32 &&& Int32.toUInt32 31)).toInt32) &&& (252645135 : Int32)))]) hx hb dJ6_bitCount_0f7a4_33 rfl hl (by decide) rfl (fun ls hl => ?_)
  refine lv_iload_n hx hb dJ6_bitCount_0f7a4_34 rfl (lv_at hl 0 rfl) ?_
  refine lv_iload_n hx hb dJ6_bitCount_0f7a4_35 rfl (lv_at hl 0 rfl) ?_
  refine lv_bipush (v := (8 : Int32)) hx hb dJ6_bitCount_0f7a4_36 (by decide) ?_
  refine lv_iushr (v := ((((((a0 - ((a0.toUInt32 >>> ((1 : Int32).toUInt32 &&& Int32.toUInt32 31)).toInt32 &&& (1431655765 : Int32))) &&& (858993459 : Int32)) + (((a0 - ((a0.toUInt32 >>> ((1 : Int32).toUInt32 &&& Int32.toUInt32 31)).toInt32 &&& (1431655765 : Int32))).toUInt32 >>> ((2 : Int32).toUInt32 &&& Int32.toUInt32 31)).toInt32 &&& (858993459 : Int32))) + ((((a0 - ((a0.toUInt32 >>> ((1 : Int32).toUInt32 &&& Int32.toUInt32 31)).toInt32 &&& (1431655765 : Int32))) &&& (858993459 : Int32)) + (((a0 - ((a0.toUInt32 >>> ((1 : Int32).toUInt32 &&& Int32.toUInt32 31)).toInt32 &&& (1431655765 : Int32))).toUInt32 >>> ((2 : Int32).toUInt32 &&& Int32.toUInt32 31)).toInt32 &&& (858993459 : Int32))).toUInt32 >>> ((4 : Int32).toUInt32 &&& Int32.toUInt32 31)).toInt32) &&& (252645135 : Int32)).toUInt32 >>> ((8 : Int32).toUInt32 &&& Int32.toUInt32 31)).toInt32) hx hb dJ6_bitCount_0f7a4_38 rfl ?_
  refine lv_iadd hx hb dJ6_bitCount_0f7a4_39 ?_
  refine lv_istore_n (lv' := [(0, .int ((((((a0 - ((a0.toUInt32 >>> ((1 : Int32).toUInt32 &&& Int32.toUInt32 31)).toInt32 &&& (1431655765 : Int32))) &&& (858993459 : Int32)) + (((a0 - ((a0.toUInt32 >>> ((1 : Int32).toUInt32 &&& Int32.toUInt32 31)).toInt32 &&& (1431655765 : Int32))).toUInt32 >>> ((2 : Int32).toUInt32 &&& Int32.toUInt32 31)).toInt32 &&& (858993459 : Int32))) + ((((a0 - ((a0.toUInt32 >>> ((1 : Int32).toUInt32 &&& Int32.toUInt32 31)).toInt32 &&& (1431655765 : Int32))) &&& (858993459 : Int32)) + (((a0 - ((a0.toUInt32 >>> ((1 : Int32).toUInt32 &&& Int32.toUInt32 31)).toInt32 &&& (1431655765 : Int32))).toUInt32 >>> ((2 : Int32).toUInt32 &&& Int32.toUInt32 31)).toInt32 &&& (858993459 : Int32))).toUInt32 >>> ((4 : Int32).toUInt32 &&& Int32.toUInt32 31)).toInt32) &&& (252645135 : Int32)) + ((((((a0 - ((a0.toUInt32 >>> ((1 : Int32).toUInt32 &&& Int32.toUInt32 31)).toInt32 &&& (1431655765 : Int32))) &&& (858993459 : Int32)) + (((a0 - ((a0.toUInt32 >>> ((1 : Int32).toUInt32 &&& Int32.toUInt32 31)).toInt32 &&& (1431655765 : Int32))).toUInt32 >>> ((2 : Int32).toUInt32 &&& Int32.toUInt32 31)).toInt32 &&& (858993459 : Int32))) + ((((a0 - ((a0.toUInt32 >>> ((1 : Int32).toUInt32 &&& Int32.toUInt32 31)).toInt32 &&& (1431655765 : Int32))) &&& (858993459 : Int32)) + (((a0 - ((a0.toUInt32 >>> ((1 : Int32).toUInt32 &&& Int32.toUInt32 31)).toInt32 &&& (1431655765 : Int32))).toUInt32 >>> ((2 : Int32).toUInt32 &&& Int32.toUInt32 31)).toInt32 &&& (858993459 : Int32))).toUInt32 >>> ((4 : Int32).toUInt32 &&& Int32.toUInt32 31)).toInt32) &&& (252645135 : Int32)).toUInt32 >>> ((8 : Int32).toUInt32 &&& Int32.toUInt32 31)).toInt32))]) hx hb dJ6_bitCount_0f7a4_40 rfl hl (by decide) rfl (fun ls hl => ?_)
  refine lv_iload_n hx hb dJ6_bitCount_0f7a4_41 rfl (lv_at hl 0 rfl) ?_
  refine lv_iload_n hx hb dJ6_bitCount_0f7a4_42 rfl (lv_at hl 0 rfl) ?_
  refine lv_bipush (v := (16 : Int32)) hx hb dJ6_bitCount_0f7a4_43 (by decide) ?_
  refine lv_iushr (v := (((((((a0 - ((a0.toUInt32 >>> ((1 : Int32).toUInt32 &&& Int32.toUInt32 31)).toInt32 &&& (1431655765 : Int32))) &&& (858993459 : Int32)) + (((a0 - ((a0.toUInt32 >>> ((1 : Int32).toUInt32 &&& Int32.toUInt32 31)).toInt32 &&& (1431655765 : Int32))).toUInt32 >>> ((2 : Int32).toUInt32 &&& Int32.toUInt32 31)).toInt32 &&& (858993459 : Int32))) + ((((a0 - ((a0.toUInt32 >>> ((1 : Int32).toUInt32 &&& Int32.toUInt32 31)).toInt32 &&& (1431655765 : Int32))) &&& (858993459 : Int32)) + (((a0 - ((a0.toUInt32 >>> ((1 : Int32).toUInt32 &&& Int32.toUInt32 31)).toInt32 &&& (1431655765 : Int32))).toUInt32 >>> ((2 : Int32).toUInt32 &&& Int32.toUInt32 31)).toInt32 &&& (858993459 : Int32))).toUInt32 >>> ((4 : Int32).toUInt32 &&& Int32.toUInt32 31)).toInt32) &&& (252645135 : Int32)) + ((((((a0 - ((a0.toUInt32 >>> ((1 : Int32).toUInt32 &&& Int32.toUInt32 31)).toInt32 &&& (1431655765 : Int32))) &&& (858993459 : Int32)) + (((a0 - ((a0.toUInt32 >>> ((1 : Int32).toUInt32 &&& Int32.toUInt32 31)).toInt32 &&& (1431655765 : Int32))).toUInt32 >>> ((2 : Int32).toUInt32 &&& Int32.toUInt32 31)).toInt32 &&& (858993459 : Int32))) + ((((a0 - ((a0.toUInt32 >>> ((1 : Int32).toUInt32 &&& Int32.toUInt32 31)).toInt32 &&& (1431655765 : Int32))) &&& (858993459 : Int32)) + (((a0 - ((a0.toUInt32 >>> ((1 : Int32).toUInt32 &&& Int32.toUInt32 31)).toInt32 &&& (1431655765 : Int32))).toUInt32 >>> ((2 : Int32).toUInt32 &&& Int32.toUInt32 31)).toInt32 &&& (858993459 : Int32))).toUInt32 >>> ((4 : Int32).toUInt32 &&& Int32.toUInt32 31)).toInt32) &&& (252645135 : Int32)).toUInt32 >>> ((8 : Int32).toUInt32 &&& Int32.toUInt32 31)).toInt32).toUInt32 >>> ((16 : Int32).toUInt32 &&& Int32.toUInt32 31)).toInt32) hx hb dJ6_bitCount_0f7a4_45 rfl ?_
  refine lv_iadd hx hb dJ6_bitCount_0f7a4_46 ?_
  refine lv_istore_n (lv' := [(0, .int (((((((a0 - ((a0.toUInt32 >>> ((1 : Int32).toUInt32 &&& Int32.toUInt32 31)).toInt32 &&& (1431655765 : Int32))) &&& (858993459 : Int32)) + (((a0 - ((a0.toUInt32 >>> ((1 : Int32).toUInt32 &&& Int32.toUInt32 31)).toInt32 &&& (1431655765 : Int32))).toUInt32 >>> ((2 : Int32).toUInt32 &&& Int32.toUInt32 31)).toInt32 &&& (858993459 : Int32))) + ((((a0 - ((a0.toUInt32 >>> ((1 : Int32).toUInt32 &&& Int32.toUInt32 31)).toInt32 &&& (1431655765 : Int32))) &&& (858993459 : Int32)) + (((a0 - ((a0.toUInt32 >>> ((1 : Int32).toUInt32 &&& Int32.toUInt32 31)).toInt32 &&& (1431655765 : Int32))).toUInt32 >>> ((2 : Int32).toUInt32 &&& Int32.toUInt32 31)).toInt32 &&& (858993459 : Int32))).toUInt32 >>> ((4 : Int32).toUInt32 &&& Int32.toUInt32 31)).toInt32) &&& (252645135 : Int32)) + ((((((a0 - ((a0.toUInt32 >>> ((1 : Int32).toUInt32 &&& Int32.toUInt32 31)).toInt32 &&& (1431655765 : Int32))) &&& (858993459 : Int32)) + (((a0 - ((a0.toUInt32 >>> ((1 : Int32).toUInt32 &&& Int32.toUInt32 31)).toInt32 &&& (1431655765 : Int32))).toUInt32 >>> ((2 : Int32).toUInt32 &&& Int32.toUInt32 31)).toInt32 &&& (858993459 : Int32))) + ((((a0 - ((a0.toUInt32 >>> ((1 : Int32).toUInt32 &&& Int32.toUInt32 31)).toInt32 &&& (1431655765 : Int32))) &&& (858993459 : Int32)) + (((a0 - ((a0.toUInt32 >>> ((1 : Int32).toUInt32 &&& Int32.toUInt32 31)).toInt32 &&& (1431655765 : Int32))).toUInt32 >>> ((2 : Int32).toUInt32 &&& Int32.toUInt32 31)).toInt32 &&& (858993459 : Int32))).toUInt32 >>> ((4 : Int32).toUInt32 &&& Int32.toUInt32 31)).toInt32) &&& (252645135 : Int32)).toUInt32 >>> ((8 : Int32).toUInt32 &&& Int32.toUInt32 31)).toInt32) + (((((((a0 - ((a0.toUInt32 >>> ((1 : Int32).toUInt32 &&& Int32.toUInt32 31)).toInt32 &&& (1431655765 : Int32))) &&& (858993459 : Int32)) + (((a0 - ((a0.toUInt32 >>> ((1 : Int32).toUInt32 &&& Int32.toUInt32 31)).toInt32 &&& (1431655765 : Int32))).toUInt32 >>> ((2 : Int32).toUInt32 &&& Int32.toUInt32 31)).toInt32 &&& (858993459 : Int32))) + ((((a0 - ((a0.toUInt32 >>> ((1 : Int32).toUInt32 &&& Int32.toUInt32 31)).toInt32 &&& (1431655765 : Int32))) &&& (858993459 : Int32)) + (((a0 - ((a0.toUInt32 >>> ((1 : Int32).toUInt32 &&& Int32.toUInt32 31)).toInt32 &&& (1431655765 : Int32))).toUInt32 >>> ((2 : Int32).toUInt32 &&& Int32.toUInt32 31)).toInt32 &&& (858993459 : Int32))).toUInt32 >>> ((4 : Int32).toUInt32 &&& Int32.toUInt32 31)).toInt32) &&& (252645135 : Int32)) + ((((((a0 - ((a0.toUInt32 >>> ((1 : Int32).toUInt32 &&& Int32.toUInt32 31)).toInt32 &&& (1431655765 : Int32))) &&& (858993459 : Int32)) + (((a0 - ((a0.toUInt32 >>> ((1 : Int32).toUInt32 &&& Int32.toUInt32 31)).toInt32 &&& (1431655765 : Int32))).toUInt32 >>> ((2 : Int32).toUInt32 &&& Int32.toUInt32 31)).toInt32 &&& (858993459 : Int32))) + ((((a0 - ((a0.toUInt32 >>> ((1 : Int32).toUInt32 &&& Int32.toUInt32 31)).toInt32 &&& (1431655765 : Int32))) &&& (858993459 : Int32)) + (((a0 - ((a0.toUInt32 >>> ((1 : Int32).toUInt32 &&& Int32.toUInt32 31)).toInt32 &&& (1431655765 : Int32))).toUInt32 >>> ((2 : Int32).toUInt32 &&& Int32.toUInt32 31)).toInt32 &&& (858993459 : Int32))).toUInt32 >>> ((4 : Int32).toUInt32 &&& Int32.toUInt32 31)).toInt32) &&& (252645135 : Int32)).toUInt32 >>> ((8 : Int32).toUInt32 &&& Int32.toUInt32 31)).toInt32).toUInt32 >>> ((16 : Int32).toUInt32 &&& Int32.toUInt32 31)).toInt32))]) hx hb dJ6_bitCount_0f7a4_47 rfl hl (by decide) rfl (fun ls hl => ?_)
  refine lv_iload_n hx hb dJ6_bitCount_0f7a4_48 rfl (lv_at hl 0 rfl) ?_
  refine lv_bipush (v := (63 : Int32)) hx hb dJ6_bitCount_0f7a4_49 (by decide) ?_
  refine lv_iand hx hb dJ6_bitCount_0f7a4_51 ?_
  cases hf
  exact zr_iret X hr hP hS dJ6_bitCount_0f7a4_52
set_option maxHeartbeats 4000000 in
set_option maxRecDepth 100000 in
theorem lpX5_planFor_L24 {g : zb_G} {nc : Nat} (hnI : 306 ≤ nc) (l : Launch) {b : Nat} (hB : zb_isB b) {a4 : Int32} {a1 : Int32} {J O : Mem} {p : Program} {e : Env} {s : State} {m : MethodId} {args : Array Value} {below : List Frame} {meth : Method} {c : Code} {Q : State → Prop} (X : zb_X g p m c cX5_planFor 8 s args RX5 meth) : ∀ {n9 : Nat} {a5 : Int32} {a3 : Int32} {a2 : Int32} {I : Mem} {z2 : Int32} {H : Heap} {locs : List Loc} {ls : Array Slot}, fX5_planFor_L24 b a4 a1 n9 a5 a3 a2 I = some z2 → (∀ (H : Heap) (locs : List Loc) (ls : Array Slot), va_P g.1 vwCl (zb_ws g nc (zb_ce g I J O)) H → va_S (zb_A g) s.heap H locs → lv_has ls 8 [(2, .int z2)] → W p l e { frames := 3, cells := 0, slots := 0, locals := 68 } s m args below meth c H locs 0 0 Q (F0 m 136 ls [])) → va_P g.1 vwCl (zb_ws g nc (zb_ce g I J O)) H → va_S (zb_A g) s.heap H locs → lv_has ls 8 [(5, .int a5), (4, .int a4), (3, .int a3), (2, .int a2), (0, .ref (g.2.2 + b)), (1, .int a1)] → W p l e { frames := 3, cells := 0, slots := 0, locals := 68 } s m args below meth c H locs 0 0 Q (F0 m 24 ls []) := by
  have hx := X.1.1
  have hb := X.1.2.1
  have ho := X.1.2.2.2.1
  have hts := X.1.2.2.2.2
  have hZ := X.2.2.2
  intro n9
  induction n9 with
  | zero =>
    intro a5 a3 a2 I z2 H locs ls hf
    exact nomatch hf
  | succ n9 ih =>
    intro a5 a3 a2 I z2 H locs ls hf KK hP hS hl
    rw [fX5_planFor_L24] at hf
    refine lv_iload hx hb dX5_planFor_24 (lv_at hl 0 rfl) ?_
    refine lv_iload hx hb dX5_planFor_26 (lv_at hl 1 rfl) ?_
    refine lv_icmp_ge (tgt := 136) hx hb dX5_planFor_28 (by decide) (fun hc => ?_) (fun hc => ?_)
    · have hf := if_t hc hf
      cases hf
      exact KK H locs ls hP hS (lv_sub hl [3] rfl)
    · have hf := if_f hc hf
      refine lv_iload hx hb dX5_planFor_31 (lv_at hl 0 rfl) ?_
      refine lv_aload_n hx hb dX5_planFor_33 rfl (lv_at hl 4 rfl) ?_
      refine gf_X5_21 X hnI hP (zb_b0 hB) dX5_planFor_34 ?_
      refine gf_X5_175 X hnI hP (zb_bk (j := 11) hB (by decide) rfl) dX5_planFor_37 ?_
      refine lv_iconst (v := (-1 : Int32)) hx hb dX5_planFor_40 (by decide) ?_
      refine lv_ixor hx hb dX5_planFor_41 ?_
      refine lv_iand hx hb dX5_planFor_42 ?_
      obtain ⟨x6, x7, ht, hf⟩ := ob2_e hf
      have K1 : ∀ (H : Heap) (locs : List Loc) (ls : Array Slot), va_P g.1 vwCl (zb_ws g nc (zb_ce g I J O)) H → va_S (zb_A g) s.heap H locs → lv_has ls 8 [(5, .int a5), (4, .int a4), (3, .int x6), (2, .int x7), (0, .ref (g.2.2 + b)), (1, .int a1)] → W p l e { frames := 3, cells := 0, slots := 0, locals := 68 } s m args below meth c H locs 0 0 Q (F0 m 130 ls []) := by
        intro H locs ls hP hS hl
        refine lv_iinc (v := (a5 + (1 : Int32))) (lv' := [(5, .int (a5 + (1 : Int32))), (4, .int a4), (3, .int x6), (2, .int x7), (0, .ref (g.2.2 + b)), (1, .int a1)]) hx hb dX5_planFor_130 hl (k := 0) rfl rfl (by decide) rfl (fun ls hl => ?_)
        refine lv_goto (tgt := 24) hx hb dX5_planFor_133 (by decide) ?_
        exact ih hf KK hP hS (lv_sub hl [0, 1, 2, 3, 4, 5] rfl)
      have hf := ht
      refine lv_if_ne (tgt := 130) hx hb dX5_planFor_43 (by decide) (fun hc => ?_) (fun hc => ?_)
      · have hf := if_f hc hf
        cases hf
        exact K1 H locs ls hP hS (lv_sub hl [0, 1, 2, 3, 4, 5] rfl)
      · have hf := if_t hc hf
        refine lv_aload_n hx hb dX5_planFor_46 rfl (lv_at hl 4 rfl) ?_
        refine lv_iload hx hb dX5_planFor_47 (lv_at hl 0 rfl) ?_
        obtain ⟨x1, hx1, hf⟩ := ob_e hf
        refine zr_cVi (rest := []) (As := [.int a5]) X hP hS (ct_X5_lengthOf (g := g) (nc := nc) (I := I) (J := J) (O := O) hnI l hB hx1) cw_X5_204 (zr_recv X hP (Nat.lt_of_lt_of_le ((zb_b0 hB)).1 hnI) (zb_ceIo (zb_b0 hB) (by decide)) rfl) rfl hl.1 (Nat.le_of_ble_eq_true rfl) ⟨Nat.le_of_ble_eq_true rfl, Nat.le_of_ble_eq_true rfl⟩ ⟨Nat.le_of_ble_eq_true rfl, Nat.le_of_ble_eq_true rfl⟩ dX5_planFor_49 rfl (fun H locs hP hS => ?_)
        refine lv_istore (lv' := [(6, .int x1), (5, .int a5), (4, .int a4), (3, .int a3), (2, .int a2), (0, .ref (g.2.2 + b)), (1, .int a1)]) hx hb dX5_planFor_52 hl (by decide) rfl (fun ls hl => ?_)
        refine lv_iload_n hx hb dX5_planFor_54 rfl (lv_at hl 4 rfl) ?_
        refine lv_iconst (v := (-1 : Int32)) hx hb dX5_planFor_55 (by decide) ?_
        obtain ⟨x4, ht, hf⟩ := ob_e hf
        have K2 : ∀ (H : Heap) (locs : List Loc) (ls : Array Slot), va_P g.1 vwCl (zb_ws g nc (zb_ce g I J O)) H → va_S (zb_A g) s.heap H locs → lv_has ls 8 [(6, .int x1), (5, .int a5), (4, .int a4), (3, .int a3), (2, .int a2), (0, .ref (g.2.2 + b)), (1, .int a1)] → W p l e { frames := 3, cells := 0, slots := 0, locals := 68 } s m args below meth c H locs 0 0 Q (F0 m 88 ls [.int x4]) := by
          intro H locs ls hP hS hl
          refine lv_istore (lv' := [(7, .int x4), (6, .int x1), (5, .int a5), (4, .int a4), (3, .int a3), (2, .int a2), (0, .ref (g.2.2 + b)), (1, .int a1)]) hx hb dX5_planFor_88 hl (by decide) rfl (fun ls hl => ?_)
          refine lv_iload hx hb dX5_planFor_90 (lv_at hl 0 rfl) ?_
          refine lv_if_eq (tgt := 130) hx hb dX5_planFor_92 (by decide) (fun hc => ?_) (fun hc => ?_)
          · have hf := if_t hc hf
            cases hf
            exact K1 H locs ls hP hS (lv_sub hl [2, 3, 4, 5, 6, 7] rfl)
          · have hf := if_f hc hf
            refine lv_iload hx hb dX5_planFor_95 (lv_at hl 1 rfl) ?_
            refine lv_aload_n hx hb dX5_planFor_97 rfl (lv_at hl 6 rfl) ?_
            refine gf_X5_42 X hnI hP (zb_b0 hB) dX5_planFor_98 ?_
            refine lv_icmp_gt (tgt := 130) hx hb dX5_planFor_101 (by decide) (fun hc => ?_) (fun hc => ?_)
            · have hf := if_t hc hf
              cases hf
              exact K1 H locs ls hP hS (lv_sub hl [2, 3, 4, 5, 6, 7] rfl)
            · have hf := if_f hc hf
              refine lv_aload_n hx hb dX5_planFor_104 rfl (lv_at hl 6 rfl) ?_
              refine lv_iload_n hx hb dX5_planFor_105 rfl (lv_at hl 7 rfl) ?_
              refine lv_aload_n hx hb dX5_planFor_106 rfl (lv_at hl 6 rfl) ?_
              refine gf_X5_21 X hnI hP (zb_b0 hB) dX5_planFor_107 ?_
              refine gf_X5_175 X hnI hP (zb_bk (j := 11) hB (by decide) rfl) dX5_planFor_110 ?_
              refine lv_iload hx hb dX5_planFor_113 (lv_at hl 2 rfl) ?_
              refine lv_iconst (v := (-1 : Int32)) hx hb dX5_planFor_115 (by decide) ?_
              refine lv_ixor hx hb dX5_planFor_116 ?_
              refine lv_iand hx hb dX5_planFor_117 ?_
              obtain ⟨x5, hx5, hf⟩ := ob_e hf
              refine zr_cVi (rest := []) (As := [.int a1, .int ((I (b + 11) 0) &&& (a5 ^^^ (-1 : Int32)))]) X hP hS (ct_X5_lacking (g := g) (nc := nc) (I := I) (J := J) (O := O) hnI l hB hx5) cw_X5_212 (zr_recv X hP (Nat.lt_of_lt_of_le ((zb_b0 hB)).1 hnI) (zb_ceIo (zb_b0 hB) (by decide)) rfl) rfl hl.1 (Nat.le_of_ble_eq_true rfl) ⟨Nat.le_of_ble_eq_true rfl, Nat.le_of_ble_eq_true rfl⟩ ⟨Nat.le_of_ble_eq_true rfl, Nat.le_of_ble_eq_true rfl⟩ dX5_planFor_118 rfl (fun H locs hP hS => ?_)
              refine lv_if_ne (tgt := 130) hx hb dX5_planFor_121 (by decide) (fun hc => ?_) (fun hc => ?_)
              · have hf := if_f hc hf
                cases hf
                exact K1 H locs ls hP hS (lv_sub hl [2, 3, 4, 5, 6, 7] rfl)
              · have hf := if_t hc hf
                refine lv_iload hx hb dX5_planFor_124 (lv_at hl 2 rfl) ?_
                refine lv_istore_n (lv' := [(2, .int a5), (7, .int x4), (6, .int x1), (5, .int a5), (4, .int a4), (3, .int a3), (0, .ref (g.2.2 + b)), (1, .int a1)]) hx hb dX5_planFor_126 rfl hl (by decide) rfl (fun ls hl => ?_)
                refine lv_iload hx hb dX5_planFor_127 (lv_at hl 2 rfl) ?_
                refine lv_istore_n (lv' := [(3, .int x1), (2, .int a5), (7, .int x4), (6, .int x1), (5, .int a5), (4, .int a4), (0, .ref (g.2.2 + b)), (1, .int a1)]) hx hb dX5_planFor_129 rfl hl (by decide) rfl (fun ls hl => ?_)
                cases hf
                exact K1 H locs ls hP hS (lv_sub hl [4, 5, 0, 1, 6, 7] rfl)
        have hf := ht
        refine lv_icmp_eq (tgt := 83) hx hb dX5_planFor_56 (by decide) (fun hc => ?_) (fun hc => ?_)
        · have hf := if_t hc hf
          refine lv_iconst (v := (1 : Int32)) hx hb dX5_planFor_83 (by decide) ?_
          refine lv_goto (tgt := 88) hx hb dX5_planFor_84 (by decide) ?_
          cases hf
          exact K2 H locs ls hP hS (lv_sub hl [0, 1, 2, 3, 4, 5, 6] rfl)
        · have hf := if_f hc hf
          refine lv_iload hx hb dX5_planFor_59 (lv_at hl 0 rfl) ?_
          refine lv_iload_n hx hb dX5_planFor_61 rfl (lv_at hl 3 rfl) ?_
          refine lv_icmp_lt (tgt := 83) hx hb dX5_planFor_62 (by decide) (fun hc => ?_) (fun hc => ?_)
          · have hf := if_t hc hf
            refine lv_iconst (v := (1 : Int32)) hx hb dX5_planFor_83 (by decide) ?_
            refine lv_goto (tgt := 88) hx hb dX5_planFor_84 (by decide) ?_
            cases hf
            exact K2 H locs ls hP hS (lv_sub hl [0, 1, 2, 3, 4, 5, 6] rfl)
          · have hf := if_f hc hf
            refine lv_iload hx hb dX5_planFor_65 (lv_at hl 0 rfl) ?_
            refine lv_iload_n hx hb dX5_planFor_67 rfl (lv_at hl 3 rfl) ?_
            refine lv_icmp_ne (tgt := 87) hx hb dX5_planFor_68 (by decide) (fun hc => ?_) (fun hc => ?_)
            · have hf := if_f hc hf
              refine lv_iconst (v := (0 : Int32)) hx hb dX5_planFor_87 (by decide) ?_
              cases hf
              exact K2 H locs ls hP hS (lv_sub hl [0, 1, 2, 3, 4, 5, 6] rfl)
            · have hf := if_t hc hf
              refine lv_iload hx hb dX5_planFor_71 (lv_at hl 1 rfl) ?_
              obtain ⟨x2, hx2, hf⟩ := ob_e hf
              refine zr_cSi (rest := []) (As := [.int a5]) X hP hS (ct_J6_bitCount_0f7a4 (g := g) (nc := nc) (I := I) (J := J) (O := O)  l  hx2) cw_X5_207  rfl hl.1 (Nat.le_of_ble_eq_true rfl) ⟨Nat.le_of_ble_eq_true rfl, Nat.le_of_ble_eq_true rfl⟩ ⟨Nat.le_of_ble_eq_true rfl, Nat.le_of_ble_eq_true rfl⟩ dX5_planFor_73 rfl (fun H locs hP hS => ?_)
              refine lv_iload_n hx hb dX5_planFor_76 rfl (lv_at hl 4 rfl) ?_
              obtain ⟨x3, hx3, hf⟩ := ob_e hf
              refine zr_cSi (rest := [.int x2]) (As := [.int a2]) X hP hS (ct_J6_bitCount_0f7a4 (g := g) (nc := nc) (I := I) (J := J) (O := O)  l  hx3) cw_X5_207  rfl hl.1 (Nat.le_of_ble_eq_true rfl) ⟨Nat.le_of_ble_eq_true rfl, Nat.le_of_ble_eq_true rfl⟩ ⟨Nat.le_of_ble_eq_true rfl, Nat.le_of_ble_eq_true rfl⟩ dX5_planFor_77 rfl (fun H locs hP hS => ?_)
              refine lv_icmp_ge (tgt := 87) hx hb dX5_planFor_80 (by decide) (fun hc => ?_) (fun hc => ?_)
              · have hf := if_t hc hf
                refine lv_iconst (v := (0 : Int32)) hx hb dX5_planFor_87 (by decide) ?_
                cases hf
                exact K2 H locs ls hP hS (lv_sub hl [0, 1, 2, 3, 4, 5, 6] rfl)
              · have hf := if_f hc hf
                refine lv_iconst (v := (1 : Int32)) hx hb dX5_planFor_83 (by decide) ?_
                refine lv_goto (tgt := 88) hx hb dX5_planFor_84 (by decide) ?_
                cases hf
                exact K2 H locs ls hP hS (lv_sub hl [0, 1, 2, 3, 4, 5, 6] rfl)
set_option maxHeartbeats 4000000 in
set_option maxRecDepth 100000 in
theorem ct_X5_planFor {g : zb_G} {nc : Nat} (hnI : 306 ≤ nc) (l : Launch) {b : Nat} (hB : zb_isB b) {a1 : Int32} {I J O : Mem} {r9 : Int32} (hf : fX5_planFor b a1 I = some r9) : zb_Ct l g nc yX5_planFor cX5_planFor 8 (some .int) 3 68 [.ref (g.2.2 + b), .int a1] (zb_ce g I J O) (some (.int r9)) (zb_ce g I J O) := by
  refine zb_ofW (own := RX5) (by decide +kernel) rfl (Nat.le_of_ble_eq_true rfl) ?_
  intro p e s m args below meth c ls X hr hP hl
  have hx := X.1.1
  have hb := X.1.2.1
  have ho := X.1.2.2.2.1
  have hts := X.1.2.2.2.2
  have hZ := X.2.2.2
  have hl : lv_has ls 8 [(0, .ref (g.2.2 + b)), (1, .int a1)] := hl
  have hS : va_S (zb_A g) s.heap s.heap [] := va_S.rf
  obtain ⟨H, hH⟩ : ∃ H, H = s.heap := ⟨_, rfl⟩
  obtain ⟨locs, hlocs⟩ : ∃ z : List Loc, z = [] := ⟨_, rfl⟩
  rw [← hH] at hP
  have hS : va_S (zb_A g) s.heap H locs := by rw [hH, hlocs]; exact hS
  show W p l e _ s m args below meth c s.heap [] 0 0 _ _
  rw [← hH, ← hlocs]
  rw [fX5_planFor] at hf
  refine lv_iconst (v := (-1 : Int32)) hx hb dX5_planFor_0 (by decide) ?_
  refine lv_istore_n (lv' := [(2, .int (-1 : Int32)), (0, .ref (g.2.2 + b)), (1, .int a1)]) hx hb dX5_planFor_1 rfl hl (by decide) rfl (fun ls hl => ?_)
  refine lv_iconst (v := (0 : Int32)) hx hb dX5_planFor_2 (by decide) ?_
  refine lv_istore_n (lv' := [(3, .int (0 : Int32)), (2, .int (-1 : Int32)), (0, .ref (g.2.2 + b)), (1, .int a1)]) hx hb dX5_planFor_3 rfl hl (by decide) rfl (fun ls hl => ?_)
  refine lv_iconst (v := (1 : Int32)) hx hb dX5_planFor_4 (by decide) ?_
  refine lv_iconst (v := (0 : Int32)) hx hb dX5_planFor_5 (by decide) ?_
  refine lv_aload_n hx hb dX5_planFor_6 rfl (lv_at hl 2 rfl) ?_
  refine gf_X5_12 X hnI hP (zb_b0 hB) dX5_planFor_7 ?_
  refine gf_X5_70 X hnI hP (zb_bk (j := 1) hB (by decide) rfl) dX5_planFor_10 ?_
  refine lv_iconst (v := (1 : Int32)) hx hb dX5_planFor_13 (by decide) ?_
  refine lv_isub hx hb dX5_planFor_14 ?_
  refine zr_max X wk_X5_79 wm_max1 wm_max2 wm_max3 hl.1 (Nat.le_of_ble_eq_true rfl) (Nat.le_of_ble_eq_true rfl) ⟨Nat.le_of_ble_eq_true rfl, Nat.le_of_ble_eq_true rfl⟩ dX5_planFor_15 ?_
  refine lv_ishl hx hb dX5_planFor_18 ?_
  refine lv_istore (lv' := [(4, .int ((1 : Int32) <<< ((imax (0 : Int32) ((I (b + 1) 0) - (1 : Int32))) &&& 31))), (3, .int (0 : Int32)), (2, .int (-1 : Int32)), (0, .ref (g.2.2 + b)), (1, .int a1)]) hx hb dX5_planFor_19 hl (by decide) rfl (fun ls hl => ?_)
  refine lv_iconst (v := (0 : Int32)) hx hb dX5_planFor_21 (by decide) ?_
  refine lv_istore (lv' := [(5, .int (0 : Int32)), (4, .int ((1 : Int32) <<< ((imax (0 : Int32) ((I (b + 1) 0) - (1 : Int32))) &&& 31))), (3, .int (0 : Int32)), (2, .int (-1 : Int32)), (0, .ref (g.2.2 + b)), (1, .int a1)]) hx hb dX5_planFor_22 hl (by decide) rfl (fun ls hl => ?_)
  obtain ⟨x8, hx8, hf⟩ := ob_e hf
  have K3 : ∀ (H : Heap) (locs : List Loc) (ls : Array Slot), va_P g.1 vwCl (zb_ws g nc (zb_ce g I J O)) H → va_S (zb_A g) s.heap H locs → lv_has ls 8 [(2, .int x8)] → W p l e { frames := 3, cells := 0, slots := 0, locals := 68 } s m args below meth c H locs 0 0 (MQ below (zb_Po g nc (zb_ce g I J O) (some (.int r9))) args s 0 0 (zb_A g)) (F0 m 136 ls []) := by
    intro H locs ls hP hS hl
    refine lv_iload_n hx hb dX5_planFor_136 rfl (lv_at hl 0 rfl) ?_
    cases hf
    exact zr_iret X hr hP hS dX5_planFor_137
  exact lpX5_planFor_L24 hnI l hB X hx8 K3 hP hS (lv_sub hl [0, 1, 2, 3, 4, 5] rfl)
set_option maxHeartbeats 4000000 in
set_option maxRecDepth 100000 in
theorem lpX5_renew_L8 {g : zb_G} {nc : Nat} (hnI : 306 ≤ nc) (l : Launch) {b : Nat} (hB : zb_isB b) {a2 : Int32} {a1 : Int32} {J O : Mem} {p : Program} {e : Env} {s : State} {m : MethodId} {args : Array Value} {below : List Frame} {meth : Method} {c : Code} {Q : State → Prop} (X : zb_X g p m c cX5_renew 4 s args RX5 meth) : ∀ {n9 : Nat} {a3 : Int32} {I : Mem} {Iz : Mem} {H : Heap} {locs : List Loc} {ls : Array Slot}, fX5_renew_L8 b a2 a1 n9 a3 I = some Iz → (∀ (H : Heap) (locs : List Loc) (ls : Array Slot), va_P g.1 vwCl (zb_ws g nc (zb_ce g Iz J O)) H → va_S (zb_A g) s.heap H locs → lv_has ls 4 [(2, .int a2), (0, .ref (g.2.2 + b)), (1, .int a1)] → W p l e { frames := 2, cells := 0, slots := 0, locals := 44 } s m args below meth c H locs 0 0 Q (F0 m 45 ls [])) → va_P g.1 vwCl (zb_ws g nc (zb_ce g I J O)) H → va_S (zb_A g) s.heap H locs → lv_has ls 4 [(3, .int a3), (2, .int a2), (0, .ref (g.2.2 + b)), (1, .int a1)] → W p l e { frames := 2, cells := 0, slots := 0, locals := 44 } s m args below meth c H locs 0 0 Q (F0 m 8 ls []) := by
  have hx := X.1.1
  have hb := X.1.2.1
  have ho := X.1.2.2.2.1
  have hts := X.1.2.2.2.2
  have hZ := X.2.2.2
  intro n9
  induction n9 with
  | zero =>
    intro a3 I Iz H locs ls hf
    exact nomatch hf
  | succ n9 ih =>
    intro a3 I Iz H locs ls hf KK hP hS hl
    rw [fX5_renew_L8] at hf
    refine lv_iload_n hx hb dX5_renew_8 rfl (lv_at hl 0 rfl) ?_
    refine lv_aload_n hx hb dX5_renew_9 rfl (lv_at hl 2 rfl) ?_
    refine gf_X5_12 X hnI hP (zb_b0 hB) dX5_renew_10 ?_
    refine gf_X5_70 X hnI hP (zb_bk (j := 1) hB (by decide) rfl) dX5_renew_13 ?_
    refine lv_iconst (v := (1 : Int32)) hx hb dX5_renew_16 (by decide) ?_
    refine lv_isub hx hb dX5_renew_17 ?_
    refine lv_icmp_ge (tgt := 45) hx hb dX5_renew_18 (by decide) (fun hc => ?_) (fun hc => ?_)
    · have hf := if_t hc hf
      cases hf
      exact KK H locs ls hP hS (lv_sub hl [1, 2, 3] rfl)
    · have hf := if_f hc hf
      refine lv_iload_n hx hb dX5_renew_21 rfl (lv_at hl 3 rfl) ?_
      refine lv_iload_n hx hb dX5_renew_22 rfl (lv_at hl 0 rfl) ?_
      obtain ⟨x2, hx2, hf⟩ := ob_e hf
      refine zr_cNi (rest := []) (As := [.int a1, .int a3]) X hP hS (ct_X7_has (g := g) (nc := nc) (I := I) (J := J) (O := O)  l  hx2) cw_X5_145  rfl hl.1 (Nat.le_of_ble_eq_true rfl) ⟨Nat.le_of_ble_eq_true rfl, Nat.le_of_ble_eq_true rfl⟩ ⟨Nat.le_of_ble_eq_true rfl, Nat.le_of_ble_eq_true rfl⟩ dX5_renew_23 rfl (fun H locs hP hS => ?_)
      obtain ⟨I4, ht, hf⟩ := ob_e hf
      have K1 : ∀ (H : Heap) (locs : List Loc) (ls : Array Slot), va_P g.1 vwCl (zb_ws g nc (zb_ce g I4 J O)) H → va_S (zb_A g) s.heap H locs → lv_has ls 4 [(3, .int a3), (2, .int a2), (0, .ref (g.2.2 + b)), (1, .int a1)] → W p l e { frames := 2, cells := 0, slots := 0, locals := 44 } s m args below meth c H locs 0 0 Q (F0 m 39 ls []) := by
        intro H locs ls hP hS hl
        refine lv_iinc (v := (a3 + (1 : Int32))) (lv' := [(3, .int (a3 + (1 : Int32))), (2, .int a2), (0, .ref (g.2.2 + b)), (1, .int a1)]) hx hb dX5_renew_39 hl (k := 0) rfl rfl (by decide) rfl (fun ls hl => ?_)
        refine lv_goto (tgt := 8) hx hb dX5_renew_42 (by decide) ?_
        exact ih hf KK hP hS (lv_sub hl [0, 1, 2, 3] rfl)
      have hf := ht
      refine lv_if_eq (tgt := 39) hx hb dX5_renew_26 (by decide) (fun hc => ?_) (fun hc => ?_)
      · have hf := if_t hc hf
        cases hf
        exact K1 H locs ls hP hS (lv_sub hl [0, 1, 2, 3] rfl)
      · have hf := if_f hc hf
        refine lv_aload_n hx hb dX5_renew_29 rfl (lv_at hl 2 rfl) ?_
        refine gf_X5_21 X hnI hP (zb_b0 hB) dX5_renew_30 ?_
        refine gf_X5_178 X hnI hP (zb_bk (j := 11) hB (by decide) rfl) dX5_renew_33 ?_
        refine lv_iload_n hx hb dX5_renew_36 rfl (lv_at hl 0 rfl) ?_
        refine lv_iconst (v := (0 : Int32)) hx hb dX5_renew_37 (by decide) ?_
        obtain ⟨I3, hI3, hf⟩ := ob_e hf
        refine zr_astI X hP hS hnI (zb_bk (j := 13) hB (by decide) rfl) hI3 dX5_renew_38 (fun H locs hP hS => ?_)
        cases hf
        exact K1 H locs ls hP hS (lv_sub hl [0, 1, 2, 3] rfl)
set_option maxHeartbeats 4000000 in
set_option maxRecDepth 100000 in
theorem ct_X5_renew {g : zb_G} {nc : Nat} (hnI : 306 ≤ nc) (l : Launch) {b : Nat} (hB : zb_isB b) {a1 : Int32} {I J O : Mem} {Iq : Mem} (hf : fX5_renew b a1 I = some Iq) : zb_Ct l g nc yX5_renew cX5_renew 4 none 2 44 [.ref (g.2.2 + b), .int a1] (zb_ce g I J O) none (zb_ce g Iq J O) := by
  refine zb_ofW (own := RX5) (by decide +kernel) rfl (Nat.le_of_ble_eq_true rfl) ?_
  intro p e s m args below meth c ls X hr hP hl
  have hx := X.1.1
  have hb := X.1.2.1
  have ho := X.1.2.2.2.1
  have hts := X.1.2.2.2.2
  have hZ := X.2.2.2
  have hl : lv_has ls 4 [(0, .ref (g.2.2 + b)), (1, .int a1)] := hl
  have hS : va_S (zb_A g) s.heap s.heap [] := va_S.rf
  obtain ⟨H, hH⟩ : ∃ H, H = s.heap := ⟨_, rfl⟩
  obtain ⟨locs, hlocs⟩ : ∃ z : List Loc, z = [] := ⟨_, rfl⟩
  rw [← hH] at hP
  have hS : va_S (zb_A g) s.heap H locs := by rw [hH, hlocs]; exact hS
  show W p l e _ s m args below meth c s.heap [] 0 0 _ _
  rw [← hH, ← hlocs]
  rw [fX5_renew] at hf
  refine lv_aload_n hx hb dX5_renew_0 rfl (lv_at hl 0 rfl) ?_
  refine lv_iload_n hx hb dX5_renew_1 rfl (lv_at hl 1 rfl) ?_
  obtain ⟨x1, hx1, hf⟩ := ob_e hf
  refine zr_cVi (rest := []) (As := [.int a1]) X hP hS (ct_X5_lengthOf (g := g) (nc := nc) (I := I) (J := J) (O := O) hnI l hB hx1) cw_X5_204 (zr_recv X hP (Nat.lt_of_lt_of_le ((zb_b0 hB)).1 hnI) (zb_ceIo (zb_b0 hB) (by decide)) rfl) rfl hl.1 (Nat.le_of_ble_eq_true rfl) ⟨Nat.le_of_ble_eq_true rfl, Nat.le_of_ble_eq_true rfl⟩ ⟨Nat.le_of_ble_eq_true rfl, Nat.le_of_ble_eq_true rfl⟩ dX5_renew_2 rfl (fun H locs hP hS => ?_)
  refine lv_istore_n (lv' := [(2, .int x1), (0, .ref (g.2.2 + b)), (1, .int a1)]) hx hb dX5_renew_5 rfl hl (by decide) rfl (fun ls hl => ?_)
  refine lv_iconst (v := (0 : Int32)) hx hb dX5_renew_6 (by decide) ?_
  refine lv_istore_n (lv' := [(3, .int (0 : Int32)), (2, .int x1), (0, .ref (g.2.2 + b)), (1, .int a1)]) hx hb dX5_renew_7 rfl hl (by decide) rfl (fun ls hl => ?_)
  obtain ⟨I5, hI5, hf⟩ := ob_e hf
  have K2 : ∀ (H : Heap) (locs : List Loc) (ls : Array Slot), va_P g.1 vwCl (zb_ws g nc (zb_ce g I5 J O)) H → va_S (zb_A g) s.heap H locs → lv_has ls 4 [(2, .int x1), (0, .ref (g.2.2 + b)), (1, .int a1)] → W p l e { frames := 2, cells := 0, slots := 0, locals := 44 } s m args below meth c H locs 0 0 (MQ below (zb_Po g nc (zb_ce g Iq J O) none) args s 0 0 (zb_A g)) (F0 m 45 ls []) := by
    intro H locs ls hP hS hl
    refine lv_aload_n hx hb dX5_renew_45 rfl (lv_at hl 1 rfl) ?_
    refine gf_X5_21 X hnI hP (zb_b0 hB) dX5_renew_46 ?_
    refine lv_dup hx hb dX5_renew_49 rfl ?_
    refine gf_X5_175 X hnI hP (zb_bk (j := 11) hB (by decide) rfl) dX5_renew_50 ?_
    refine lv_iload_n hx hb dX5_renew_53 rfl (lv_at hl 2 rfl) ?_
    refine lv_iconst (v := (-1 : Int32)) hx hb dX5_renew_54 (by decide) ?_
    refine lv_ixor hx hb dX5_renew_55 ?_
    refine lv_iand hx hb dX5_renew_56 ?_
    refine pf_X5_175 X hnI hP hS (zb_bk (j := 11) hB (by decide) rfl) dX5_renew_57 (fun H locs hP hS => ?_)
    refine lv_aload_n hx hb dX5_renew_60 rfl (lv_at hl 1 rfl) ?_
    refine lv_dup hx hb dX5_renew_61 rfl ?_
    refine gf_X5_42 X hnI hP (zb_b0 hB) dX5_renew_62 ?_
    refine lv_iload_n hx hb dX5_renew_65 rfl (lv_at hl 0 rfl) ?_
    refine lv_isub hx hb dX5_renew_66 ?_
    refine pf_X5_42 X hnI hP hS (zb_b0 hB) dX5_renew_67 (fun H locs hP hS => ?_)
    refine lv_aload_n hx hb dX5_renew_70 rfl (lv_at hl 1 rfl) ?_
    refine lv_dup hx hb dX5_renew_71 rfl ?_
    refine gf_X5_57 X hnI hP (zb_b0 hB) dX5_renew_72 ?_
    refine lv_iload_n hx hb dX5_renew_75 rfl (lv_at hl 0 rfl) ?_
    refine lv_iadd hx hb dX5_renew_76 ?_
    refine pf_X5_57 X hnI hP hS (zb_b0 hB) dX5_renew_77 (fun H locs hP hS => ?_)
    cases hf
    exact zr_vret X hr hP hS rfl dX5_renew_80
  exact lpX5_renew_L8 hnI l hB X hI5 K2 hP hS (lv_sub hl [0, 1, 2, 3] rfl)
set_option maxHeartbeats 4000000 in
set_option maxRecDepth 100000 in
theorem lpX7_bytesIn_L5 {g : zb_G} {nc : Nat} (l : Launch) {a0 : Int32} {I J O : Mem} {p : Program} {e : Env} {s : State} {m : MethodId} {args : Array Value} {below : List Frame} {meth : Method} {c : Code} {Q : State → Prop} (X : zb_X g p m c cX7_bytesIn 3 s args RX7 meth) : ∀ {n9 : Nat} {a2 : Int32} {a1 : Int32} {z1 : Int32} {H : Heap} {locs : List Loc} {ls : Array Slot}, fX7_bytesIn_L5 a0 n9 a2 a1 = some z1 → (∀ (H : Heap) (locs : List Loc) (ls : Array Slot), va_P g.1 vwCl (zb_ws g nc (zb_ce g I J O)) H → va_S (zb_A g) s.heap H locs → lv_has ls 3 [(1, .int z1)] → W p l e { frames := 0, cells := 0, slots := 0, locals := 0 } s m args below meth c H locs 0 0 Q (F0 m 28 ls [])) → va_P g.1 vwCl (zb_ws g nc (zb_ce g I J O)) H → va_S (zb_A g) s.heap H locs → lv_has ls 3 [(2, .int a2), (1, .int a1), (0, .int a0)] → W p l e { frames := 0, cells := 0, slots := 0, locals := 0 } s m args below meth c H locs 0 0 Q (F0 m 5 ls []) := by
  have hx := X.1.1
  have hb := X.1.2.1
  have ho := X.1.2.2.2.1
  have hts := X.1.2.2.2.2
  have hZ := X.2.2.2
  intro n9
  induction n9 with
  | zero =>
    intro a2 a1 z1 H locs ls hf
    exact nomatch hf
  | succ n9 ih =>
    intro a2 a1 z1 H locs ls hf KK hP hS hl
    rw [fX7_bytesIn_L5] at hf
    refine lv_iload_n hx hb dX7_bytesIn_5 rfl (lv_at hl 0 rfl) ?_
    refine lv_if_lt (tgt := 28) hx hb dX7_bytesIn_6 (by decide) (fun hc => ?_) (fun hc => ?_)
    · have hf := if_t hc hf
      cases hf
      exact KK H locs ls hP hS (lv_sub hl [1] rfl)
    · have hf := if_f hc hf
      refine lv_iload_n hx hb dX7_bytesIn_9 rfl (lv_at hl 2 rfl) ?_
      refine lv_iload_n hx hb dX7_bytesIn_10 rfl (lv_at hl 0 rfl) ?_
      refine lv_ishr hx hb dX7_bytesIn_11 ?_
      refine lv_sipush (v := (255 : Int32)) hx hb dX7_bytesIn_12 (by decide) ?_
      refine lv_iand hx hb dX7_bytesIn_15 ?_
      obtain ⟨x1, ht, hf⟩ := pl_e hf
      have K1 : ∀ (H : Heap) (locs : List Loc) (ls : Array Slot), va_P g.1 vwCl (zb_ws g nc (zb_ce g I J O)) H → va_S (zb_A g) s.heap H locs → lv_has ls 3 [(2, .int a2), (1, .int x1), (0, .int a0)] → W p l e { frames := 0, cells := 0, slots := 0, locals := 0 } s m args below meth c H locs 0 0 Q (F0 m 22 ls []) := by
        intro H locs ls hP hS hl
        refine lv_iinc (v := (a2 + (-8 : Int32))) (lv' := [(2, .int (a2 + (-8 : Int32))), (1, .int x1), (0, .int a0)]) hx hb dX7_bytesIn_22 hl (k := 0) rfl rfl (by decide) rfl (fun ls hl => ?_)
        refine lv_goto (tgt := 5) hx hb dX7_bytesIn_25 (by decide) ?_
        exact ih hf KK hP hS (lv_sub hl [0, 1, 2] rfl)
      have hf := ht
      refine lv_if_eq (tgt := 22) hx hb dX7_bytesIn_16 (by decide) (fun hc => ?_) (fun hc => ?_)
      · have hf := if_t hc hf
        cases hf
        exact K1 H locs ls hP hS (lv_sub hl [0, 1, 2] rfl)
      · have hf := if_f hc hf
        refine lv_iinc (v := (a1 + (1 : Int32))) (lv' := [(1, .int (a1 + (1 : Int32))), (2, .int a2), (0, .int a0)]) hx hb dX7_bytesIn_19 hl (k := 1) rfl rfl (by decide) rfl (fun ls hl => ?_)
        cases hf
        exact K1 H locs ls hP hS (lv_sub hl [1, 0, 2] rfl)
set_option maxHeartbeats 4000000 in
set_option maxRecDepth 100000 in
theorem ct_X7_bytesIn {g : zb_G} {nc : Nat} (l : Launch) {a0 : Int32} {I J O : Mem} {r9 : Int32} (hf : fX7_bytesIn a0 = some r9) : zb_Ct l g nc yX7_bytesIn cX7_bytesIn 3 (some .int) 0 0 [.int a0] (zb_ce g I J O) (some (.int r9)) (zb_ce g I J O) := by
  refine zb_ofW (own := RX7) (by decide +kernel) rfl (Nat.le_of_ble_eq_true rfl) ?_
  intro p e s m args below meth c ls X hr hP hl
  have hx := X.1.1
  have hb := X.1.2.1
  have ho := X.1.2.2.2.1
  have hts := X.1.2.2.2.2
  have hZ := X.2.2.2
  have hl : lv_has ls 3 [(0, .int a0)] := hl
  have hS : va_S (zb_A g) s.heap s.heap [] := va_S.rf
  obtain ⟨H, hH⟩ : ∃ H, H = s.heap := ⟨_, rfl⟩
  obtain ⟨locs, hlocs⟩ : ∃ z : List Loc, z = [] := ⟨_, rfl⟩
  rw [← hH] at hP
  have hS : va_S (zb_A g) s.heap H locs := by rw [hH, hlocs]; exact hS
  show W p l e _ s m args below meth c s.heap [] 0 0 _ _
  rw [← hH, ← hlocs]
  rw [fX7_bytesIn] at hf
  refine lv_iconst (v := (0 : Int32)) hx hb dX7_bytesIn_0 (by decide) ?_
  refine lv_istore_n (lv' := [(1, .int (0 : Int32)), (0, .int a0)]) hx hb dX7_bytesIn_1 rfl hl (by decide) rfl (fun ls hl => ?_)
  refine lv_bipush (v := (24 : Int32)) hx hb dX7_bytesIn_2 (by decide) ?_
  refine lv_istore_n (lv' := [(2, .int (24 : Int32)), (1, .int (0 : Int32)), (0, .int a0)]) hx hb dX7_bytesIn_4 rfl hl (by decide) rfl (fun ls hl => ?_)
  obtain ⟨x2, hx2, hf⟩ := ob_e hf
  have K2 : ∀ (H : Heap) (locs : List Loc) (ls : Array Slot), va_P g.1 vwCl (zb_ws g nc (zb_ce g I J O)) H → va_S (zb_A g) s.heap H locs → lv_has ls 3 [(1, .int x2)] → W p l e { frames := 0, cells := 0, slots := 0, locals := 0 } s m args below meth c H locs 0 0 (MQ below (zb_Po g nc (zb_ce g I J O) (some (.int r9))) args s 0 0 (zb_A g)) (F0 m 28 ls []) := by
    intro H locs ls hP hS hl
    refine lv_iload_n hx hb dX7_bytesIn_28 rfl (lv_at hl 0 rfl) ?_
    cases hf
    exact zr_iret X hr hP hS dX7_bytesIn_29
  exact lpX7_bytesIn_L5  l  X hx2 K2 hP hS (lv_sub hl [0, 1, 2] rfl)
set_option maxHeartbeats 4000000 in
set_option maxRecDepth 100000 in
theorem ct_X7_append {g : zb_G} {nc : Nat} (hnI : 306 ≤ nc) (l : Launch) {a1 : Int32} {a2 : Int32} {a3 : Int32} {a4 : Int32} {a5 : Int32} {I J O : Mem} {r9 : Int32} {Iq : Mem} (hf : fX7_append a1 a2 a3 a4 a5 I = some (0, r9, Iq)) : zb_Ct l g nc yX7_append cX7_append 7 (some .int) 6 125 [.ref (g.2.2 + 0), .int a1, .int a2, .int a3, .int a4, .int a5] (zb_ce g I J O) (some (.int r9)) (zb_ce g Iq J O) := by
  refine zb_ofW (own := RX7) (by decide +kernel) rfl (Nat.le_of_ble_eq_true rfl) ?_
  intro p e s m args below meth c ls X hr hP hl
  have hx := X.1.1
  have hb := X.1.2.1
  have ho := X.1.2.2.2.1
  have hts := X.1.2.2.2.2
  have hZ := X.2.2.2
  have hl : lv_has ls 7 [(0, .ref (g.2.2 + 0)), (1, .int a1), (2, .int a2), (3, .int a3), (4, .int a4), (5, .int a5)] := hl
  have hS : va_S (zb_A g) s.heap s.heap [] := va_S.rf
  obtain ⟨H, hH⟩ : ∃ H, H = s.heap := ⟨_, rfl⟩
  obtain ⟨locs, hlocs⟩ : ∃ z : List Loc, z = [] := ⟨_, rfl⟩
  rw [← hH] at hP
  have hS : va_S (zb_A g) s.heap H locs := by rw [hH, hlocs]; exact hS
  show W p l e _ s m args below meth c s.heap [] 0 0 _ _
  rw [← hH, ← hlocs]
  rw [fX7_append] at hf
  refine lv_iload_n hx hb dX7_append_0 rfl (lv_at hl 1 rfl) ?_
  obtain ⟨x1, hx1, hf⟩ := ob_e hf
  refine zr_cSi (rest := []) (As := [.int a1]) X hP hS (ct_X7_bytesIn (g := g) (nc := nc) (I := I) (J := J) (O := O)  l  hx1) cw_X7_98  rfl hl.1 (Nat.le_of_ble_eq_true rfl) ⟨Nat.le_of_ble_eq_true rfl, Nat.le_of_ble_eq_true rfl⟩ ⟨Nat.le_of_ble_eq_true rfl, Nat.le_of_ble_eq_true rfl⟩ dX7_append_1 rfl (fun H locs hP hS => ?_)
  refine lv_iload_n hx hb dX7_append_4 rfl (lv_at hl 2 rfl) ?_
  obtain ⟨x2, hx2, hf⟩ := ob_e hf
  refine zr_cSi (rest := [.int x1]) (As := [.int a2]) X hP hS (ct_X7_bytesIn (g := g) (nc := nc) (I := I) (J := J) (O := O)  l  hx2) cw_X7_98  rfl hl.1 (Nat.le_of_ble_eq_true rfl) ⟨Nat.le_of_ble_eq_true rfl, Nat.le_of_ble_eq_true rfl⟩ ⟨Nat.le_of_ble_eq_true rfl, Nat.le_of_ble_eq_true rfl⟩ dX7_append_5 rfl (fun H locs hP hS => ?_)
  refine lv_iadd hx hb dX7_append_8 ?_
  refine lv_iload_n hx hb dX7_append_9 rfl (lv_at hl 3 rfl) ?_
  obtain ⟨x3, hx3, hf⟩ := ob_e hf
  refine zr_cSi (rest := [.int (x1 + x2)]) (As := [.int a3]) X hP hS (ct_X7_bytesIn (g := g) (nc := nc) (I := I) (J := J) (O := O)  l  hx3) cw_X7_98  rfl hl.1 (Nat.le_of_ble_eq_true rfl) ⟨Nat.le_of_ble_eq_true rfl, Nat.le_of_ble_eq_true rfl⟩ ⟨Nat.le_of_ble_eq_true rfl, Nat.le_of_ble_eq_true rfl⟩ dX7_append_10 rfl (fun H locs hP hS => ?_)
  refine lv_iadd hx hb dX7_append_13 ?_
  refine lv_iload hx hb dX7_append_14 (lv_at hl 4 rfl) ?_
  obtain ⟨x4, hx4, hf⟩ := ob_e hf
  refine zr_cSi (rest := [.int ((x1 + x2) + x3)]) (As := [.int a4]) X hP hS (ct_X7_bytesIn (g := g) (nc := nc) (I := I) (J := J) (O := O)  l  hx4) cw_X7_98  rfl hl.1 (Nat.le_of_ble_eq_true rfl) ⟨Nat.le_of_ble_eq_true rfl, Nat.le_of_ble_eq_true rfl⟩ ⟨Nat.le_of_ble_eq_true rfl, Nat.le_of_ble_eq_true rfl⟩ dX7_append_16 rfl (fun H locs hP hS => ?_)
  refine lv_iadd hx hb dX7_append_19 ?_
  refine lv_iload hx hb dX7_append_20 (lv_at hl 5 rfl) ?_
  obtain ⟨x5, hx5, hf⟩ := ob_e hf
  refine zr_cSi (rest := [.int (((x1 + x2) + x3) + x4)]) (As := [.int a5]) X hP hS (ct_X7_bytesIn (g := g) (nc := nc) (I := I) (J := J) (O := O)  l  hx5) cw_X7_98  rfl hl.1 (Nat.le_of_ble_eq_true rfl) ⟨Nat.le_of_ble_eq_true rfl, Nat.le_of_ble_eq_true rfl⟩ ⟨Nat.le_of_ble_eq_true rfl, Nat.le_of_ble_eq_true rfl⟩ dX7_append_22 rfl (fun H locs hP hS => ?_)
  refine lv_iadd hx hb dX7_append_25 ?_
  refine lv_istore (lv' := [(6, .int ((((x1 + x2) + x3) + x4) + x5)), (0, .ref (g.2.2 + 0)), (1, .int a1), (2, .int a2), (3, .int a3), (4, .int a4), (5, .int a5)]) hx hb dX7_append_26 hl (by decide) rfl (fun ls hl => ?_)
  refine lv_aload_n hx hb dX7_append_28 rfl (lv_at hl 1 rfl) ?_
  refine gf_X7_53 X hnI hP zk_0 dX7_append_29 ?_
  refine gf_X7_102 X hnI hP zk_56 dX7_append_32 ?_
  refine lv_iload hx hb dX7_append_35 (lv_at hl 0 rfl) ?_
  refine lv_iadd hx hb dX7_append_37 ?_
  refine lv_sipush (v := (500 : Int32)) hx hb dX7_append_38 (by decide) ?_
  refine lv_icmp_le (tgt := 54) hx hb dX7_append_41 (by decide) (fun hc => ?_) (fun hc => ?_)
  · have hf := if_t hc hf
    refine lv_aload_n hx hb dX7_append_54 rfl (lv_at hl 1 rfl) ?_
    refine gf_X7_53 X hnI hP zk_0 dX7_append_55 ?_
    refine lv_iload_n hx hb dX7_append_58 rfl (lv_at hl 2 rfl) ?_
    obtain ⟨I6, hI6, hf⟩ := ob_e hf
    refine zr_cVv (rest := []) (As := [.int a1]) X hP hS (ct_X2_addBytes (g := g) (nc := nc) (I := I) (J := J) (O := O) hnI l  hI6) cw_X7_112 (zr_recv X hP (Nat.lt_of_lt_of_le (zk_56).1 hnI) (zb_ceIo zk_56 (by decide)) rfl) rfl hl.1 (Nat.le_of_ble_eq_true rfl) ⟨Nat.le_of_ble_eq_true rfl, Nat.le_of_ble_eq_true rfl⟩ ⟨Nat.le_of_ble_eq_true rfl, Nat.le_of_ble_eq_true rfl⟩ dX7_append_59 rfl (fun H locs hP hS => ?_)
    refine lv_aload_n hx hb dX7_append_62 rfl (lv_at hl 1 rfl) ?_
    refine gf_X7_53 X hnI hP zk_0 dX7_append_63 ?_
    refine lv_iload_n hx hb dX7_append_66 rfl (lv_at hl 3 rfl) ?_
    obtain ⟨I7, hI7, hf⟩ := ob_e hf
    refine zr_cVv (rest := []) (As := [.int a2]) X hP hS (ct_X2_addBytes (g := g) (nc := nc) (I := I6) (J := J) (O := O) hnI l  hI7) cw_X7_112 (zr_recv X hP (Nat.lt_of_lt_of_le (zk_56).1 hnI) (zb_ceIo zk_56 (by decide)) rfl) rfl hl.1 (Nat.le_of_ble_eq_true rfl) ⟨Nat.le_of_ble_eq_true rfl, Nat.le_of_ble_eq_true rfl⟩ ⟨Nat.le_of_ble_eq_true rfl, Nat.le_of_ble_eq_true rfl⟩ dX7_append_67 rfl (fun H locs hP hS => ?_)
    refine lv_aload_n hx hb dX7_append_70 rfl (lv_at hl 1 rfl) ?_
    refine gf_X7_53 X hnI hP zk_0 dX7_append_71 ?_
    refine lv_iload_n hx hb dX7_append_74 rfl (lv_at hl 4 rfl) ?_
    obtain ⟨I8, hI8, hf⟩ := ob_e hf
    refine zr_cVv (rest := []) (As := [.int a3]) X hP hS (ct_X2_addBytes (g := g) (nc := nc) (I := I7) (J := J) (O := O) hnI l  hI8) cw_X7_112 (zr_recv X hP (Nat.lt_of_lt_of_le (zk_56).1 hnI) (zb_ceIo zk_56 (by decide)) rfl) rfl hl.1 (Nat.le_of_ble_eq_true rfl) ⟨Nat.le_of_ble_eq_true rfl, Nat.le_of_ble_eq_true rfl⟩ ⟨Nat.le_of_ble_eq_true rfl, Nat.le_of_ble_eq_true rfl⟩ dX7_append_75 rfl (fun H locs hP hS => ?_)
    refine lv_aload_n hx hb dX7_append_78 rfl (lv_at hl 1 rfl) ?_
    refine gf_X7_53 X hnI hP zk_0 dX7_append_79 ?_
    refine lv_iload hx hb dX7_append_82 (lv_at hl 5 rfl) ?_
    obtain ⟨I9, hI9, hf⟩ := ob_e hf
    refine zr_cVv (rest := []) (As := [.int a4]) X hP hS (ct_X2_addBytes (g := g) (nc := nc) (I := I8) (J := J) (O := O) hnI l  hI9) cw_X7_112 (zr_recv X hP (Nat.lt_of_lt_of_le (zk_56).1 hnI) (zb_ceIo zk_56 (by decide)) rfl) rfl hl.1 (Nat.le_of_ble_eq_true rfl) ⟨Nat.le_of_ble_eq_true rfl, Nat.le_of_ble_eq_true rfl⟩ ⟨Nat.le_of_ble_eq_true rfl, Nat.le_of_ble_eq_true rfl⟩ dX7_append_84 rfl (fun H locs hP hS => ?_)
    refine lv_aload_n hx hb dX7_append_87 rfl (lv_at hl 1 rfl) ?_
    refine gf_X7_53 X hnI hP zk_0 dX7_append_88 ?_
    refine lv_iload hx hb dX7_append_91 (lv_at hl 6 rfl) ?_
    obtain ⟨I10, hI10, hf⟩ := ob_e hf
    refine zr_cVv (rest := []) (As := [.int a5]) X hP hS (ct_X2_addBytes (g := g) (nc := nc) (I := I9) (J := J) (O := O) hnI l  hI10) cw_X7_112 (zr_recv X hP (Nat.lt_of_lt_of_le (zk_56).1 hnI) (zb_ceIo zk_56 (by decide)) rfl) rfl hl.1 (Nat.le_of_ble_eq_true rfl) ⟨Nat.le_of_ble_eq_true rfl, Nat.le_of_ble_eq_true rfl⟩ ⟨Nat.le_of_ble_eq_true rfl, Nat.le_of_ble_eq_true rfl⟩ dX7_append_93 rfl (fun H locs hP hS => ?_)
    refine lv_aload_n hx hb dX7_append_96 rfl (lv_at hl 1 rfl) ?_
    refine gf_X7_53 X hnI hP zk_0 dX7_append_97 ?_
    refine gf_X7_102 X hnI hP zk_56 dX7_append_100 ?_
    cases hf
    exact zr_iret X hr hP hS dX7_append_103
  · have hf := if_f hc hf
    exact (thr_ne (by decide) hf).elim
set_option maxHeartbeats 4000000 in
set_option maxRecDepth 100000 in
theorem ct_X7_readBuoy {g : zb_G} {nc : Nat} (hnI : 306 ≤ nc) (l : Launch) {I J O : Mem} {Iq : Mem} (hf : fX7_readBuoy I = some Iq) : zb_Ct l g nc yX7_readBuoy cX7_readBuoy 5 none 4 90 [.ref (g.2.2 + 0)] (zb_ce g I J O) none (zb_ce g Iq J O) := by
  refine zb_ofW (own := RX7) (by decide +kernel) rfl (Nat.le_of_ble_eq_true rfl) ?_
  intro p e s m args below meth c ls X hr hP hl
  have hx := X.1.1
  have hb := X.1.2.1
  have ho := X.1.2.2.2.1
  have hts := X.1.2.2.2.2
  have hZ := X.2.2.2
  have hl : lv_has ls 5 [(0, .ref (g.2.2 + 0))] := hl
  have hS : va_S (zb_A g) s.heap s.heap [] := va_S.rf
  obtain ⟨H, hH⟩ : ∃ H, H = s.heap := ⟨_, rfl⟩
  obtain ⟨locs, hlocs⟩ : ∃ z : List Loc, z = [] := ⟨_, rfl⟩
  rw [← hH] at hP
  have hS : va_S (zb_A g) s.heap H locs := by rw [hH, hlocs]; exact hS
  show W p l e _ s m args below meth c s.heap [] 0 0 _ _
  rw [← hH, ← hlocs]
  rw [fX7_readBuoy] at hf
  refine lv_aload_n hx hb dX7_readBuoy_0 rfl (lv_at hl 0 rfl) ?_
  refine gf_X7_16 X hnI hP zk_0 dX7_readBuoy_1 ?_
  refine gf_X7_88 X hnI hP zk_25 dX7_readBuoy_4 ?_
  refine gf_X7_133 X hnI hP zk_26 dX7_readBuoy_7 ?_
  refine lv_bipush (v := (10 : Int32)) hx hb dX7_readBuoy_10 (by decide) ?_
  obtain ⟨I2, ht, hf⟩ := ob_e hf
  have K1 : ∀ (H : Heap) (locs : List Loc) (ls : Array Slot), va_P g.1 vwCl (zb_ws g nc (zb_ce g I2 J O)) H → va_S (zb_A g) s.heap H locs → lv_has ls 5 [(0, .ref (g.2.2 + 0))] → W p l e { frames := 4, cells := 0, slots := 0, locals := 90 } s m args below meth c H locs 0 0 (MQ below (zb_Po g nc (zb_ce g Iq J O) none) args s 0 0 (zb_A g)) (F0 m 23 ls []) := by
    intro H locs ls hP hS hl
    refine lv_aload_n hx hb dX7_readBuoy_23 rfl (lv_at hl 0 rfl) ?_
    refine gf_X7_53 X hnI hP zk_0 dX7_readBuoy_24 ?_
    refine lv_bipush (v := (8 : Int32)) hx hb dX7_readBuoy_27 (by decide) ?_
    obtain ⟨I3, hI3, hf⟩ := ob_e hf
    refine zr_cVv (rest := []) (As := [.int (8 : Int32)]) X hP hS (ct_X2_takeKind (g := g) (nc := nc) (I := I2) (J := J) (O := O) hnI l  hI3) cw_X7_438 (zr_recv X hP (Nat.lt_of_lt_of_le (zk_56).1 hnI) (zb_ceIo zk_56 (by decide)) rfl) rfl hl.1 (Nat.le_of_ble_eq_true rfl) ⟨Nat.le_of_ble_eq_true rfl, Nat.le_of_ble_eq_true rfl⟩ ⟨Nat.le_of_ble_eq_true rfl, Nat.le_of_ble_eq_true rfl⟩ dX7_readBuoy_29 rfl (fun H locs hP hS => ?_)
    refine lv_aload_n hx hb dX7_readBuoy_32 rfl (lv_at hl 0 rfl) ?_
    refine gf_X7_53 X hnI hP zk_0 dX7_readBuoy_33 ?_
    refine lv_iconst (v := (0 : Int32)) hx hb dX7_readBuoy_36 (by decide) ?_
    refine lv_sipush (v := (9999 : Int32)) hx hb dX7_readBuoy_37 (by decide) ?_
    obtain ⟨x4, I5, hx4_I5, hf⟩ := ob2_e hf
    refine zr_cVi (rest := []) (As := [.int (0 : Int32), .int (9999 : Int32)]) X hP hS (ct_X2_lookNumber (g := g) (nc := nc) (I := I3) (J := J) (O := O) hnI l  hx4_I5) cw_X7_459 (zr_recv X hP (Nat.lt_of_lt_of_le (zk_56).1 hnI) (zb_ceIo zk_56 (by decide)) rfl) rfl hl.1 (Nat.le_of_ble_eq_true rfl) ⟨Nat.le_of_ble_eq_true rfl, Nat.le_of_ble_eq_true rfl⟩ ⟨Nat.le_of_ble_eq_true rfl, Nat.le_of_ble_eq_true rfl⟩ dX7_readBuoy_40 rfl (fun H locs hP hS => ?_)
    refine lv_istore_n (lv' := [(1, .int x4), (0, .ref (g.2.2 + 0))]) hx hb dX7_readBuoy_43 rfl hl (by decide) rfl (fun ls hl => ?_)
    refine lv_iload_n hx hb dX7_readBuoy_44 rfl (lv_at hl 0 rfl) ?_
    refine lv_aload_n hx hb dX7_readBuoy_45 rfl (lv_at hl 1 rfl) ?_
    refine gf_X7_16 X hnI hP zk_0 dX7_readBuoy_46 ?_
    refine gf_X7_88 X hnI hP zk_25 dX7_readBuoy_49 ?_
    obtain ⟨x6, hx6, hf⟩ := ob_e hf
    refine zr_cVi (rest := [.int x4]) (As := []) X hP hS (ct_X0_lastHome (g := g) (nc := nc) (I := I5) (J := J) (O := O) hnI l zb_isB25 hx6) cw_X7_462 (zr_recv X hP (Nat.lt_of_lt_of_le (zk_26).1 hnI) (zb_ceIo zk_26 (by decide)) rfl) rfl hl.1 (Nat.le_of_ble_eq_true rfl) ⟨Nat.le_of_ble_eq_true rfl, Nat.le_of_ble_eq_true rfl⟩ ⟨Nat.le_of_ble_eq_true rfl, Nat.le_of_ble_eq_true rfl⟩ dX7_readBuoy_52 rfl (fun H locs hP hS => ?_)
    obtain ⟨I8, ht, hf⟩ := ob_e hf
    have K2 : ∀ (H : Heap) (locs : List Loc) (ls : Array Slot), va_P g.1 vwCl (zb_ws g nc (zb_ce g I8 J O)) H → va_S (zb_A g) s.heap H locs → lv_has ls 5 [(1, .int x4), (0, .ref (g.2.2 + 0))] → W p l e { frames := 4, cells := 0, slots := 0, locals := 90 } s m args below meth c H locs 0 0 (MQ below (zb_Po g nc (zb_ce g Iq J O) none) args s 0 0 (zb_A g)) (F0 m 66 ls []) := by
      intro H locs ls hP hS hl
      refine lv_aload_n hx hb dX7_readBuoy_66 rfl (lv_at hl 1 rfl) ?_
      refine gf_X7_53 X hnI hP zk_0 dX7_readBuoy_67 ?_
      refine lv_iconst (v := (1 : Int32)) hx hb dX7_readBuoy_70 (by decide) ?_
      obtain ⟨I9, hI9, hf⟩ := ob_e hf
      refine zr_cVv (rest := []) (As := [.int (1 : Int32)]) X hP hS (ct_X2_takeKind (g := g) (nc := nc) (I := I8) (J := J) (O := O) hnI l  hI9) cw_X7_438 (zr_recv X hP (Nat.lt_of_lt_of_le (zk_56).1 hnI) (zb_ceIo zk_56 (by decide)) rfl) rfl hl.1 (Nat.le_of_ble_eq_true rfl) ⟨Nat.le_of_ble_eq_true rfl, Nat.le_of_ble_eq_true rfl⟩ ⟨Nat.le_of_ble_eq_true rfl, Nat.le_of_ble_eq_true rfl⟩ dX7_readBuoy_71 rfl (fun H locs hP hS => ?_)
      refine lv_aload_n hx hb dX7_readBuoy_74 rfl (lv_at hl 1 rfl) ?_
      refine gf_X7_53 X hnI hP zk_0 dX7_readBuoy_75 ?_
      refine lv_iconst (v := (1 : Int32)) hx hb dX7_readBuoy_78 (by decide) ?_
      refine lv_bipush (v := (9 : Int32)) hx hb dX7_readBuoy_79 (by decide) ?_
      obtain ⟨x10, I11, hx10_I11, hf⟩ := ob2_e hf
      refine zr_cVi (rest := []) (As := [.int (1 : Int32), .int (9 : Int32)]) X hP hS (ct_X2_takeNumber (g := g) (nc := nc) (I := I9) (J := J) (O := O) hnI l  hx10_I11) cw_X7_441 (zr_recv X hP (Nat.lt_of_lt_of_le (zk_56).1 hnI) (zb_ceIo zk_56 (by decide)) rfl) rfl hl.1 (Nat.le_of_ble_eq_true rfl) ⟨Nat.le_of_ble_eq_true rfl, Nat.le_of_ble_eq_true rfl⟩ ⟨Nat.le_of_ble_eq_true rfl, Nat.le_of_ble_eq_true rfl⟩ dX7_readBuoy_81 rfl (fun H locs hP hS => ?_)
      refine lv_istore_n (lv' := [(2, .int x10), (1, .int x4), (0, .ref (g.2.2 + 0))]) hx hb dX7_readBuoy_84 rfl hl (by decide) rfl (fun ls hl => ?_)
      refine lv_aload_n hx hb dX7_readBuoy_85 rfl (lv_at hl 2 rfl) ?_
      refine gf_X7_53 X hnI hP zk_0 dX7_readBuoy_86 ?_
      refine lv_iconst (v := (0 : Int32)) hx hb dX7_readBuoy_89 (by decide) ?_
      refine lv_bipush (v := (99 : Int32)) hx hb dX7_readBuoy_90 (by decide) ?_
      obtain ⟨x12, I13, hx12_I13, hf⟩ := ob2_e hf
      refine zr_cVi (rest := []) (As := [.int (0 : Int32), .int (99 : Int32)]) X hP hS (ct_X2_takeNumber (g := g) (nc := nc) (I := I11) (J := J) (O := O) hnI l  hx12_I13) cw_X7_441 (zr_recv X hP (Nat.lt_of_lt_of_le (zk_56).1 hnI) (zb_ceIo zk_56 (by decide)) rfl) rfl hl.1 (Nat.le_of_ble_eq_true rfl) ⟨Nat.le_of_ble_eq_true rfl, Nat.le_of_ble_eq_true rfl⟩ ⟨Nat.le_of_ble_eq_true rfl, Nat.le_of_ble_eq_true rfl⟩ dX7_readBuoy_92 rfl (fun H locs hP hS => ?_)
      refine lv_istore_n (lv' := [(3, .int x12), (2, .int x10), (1, .int x4), (0, .ref (g.2.2 + 0))]) hx hb dX7_readBuoy_95 rfl hl (by decide) rfl (fun ls hl => ?_)
      refine lv_aload_n hx hb dX7_readBuoy_96 rfl (lv_at hl 3 rfl) ?_
      refine gf_X7_53 X hnI hP zk_0 dX7_readBuoy_97 ?_
      obtain ⟨x14, hx14, hf⟩ := ob_e hf
      refine zr_cVi (rest := []) (As := []) X hP hS (ct_X2_isAtSigned (g := g) (nc := nc) (I := I13) (J := J) (O := O) hnI l  hx14) cw_X7_465 (zr_recv X hP (Nat.lt_of_lt_of_le (zk_56).1 hnI) (zb_ceIo zk_56 (by decide)) rfl) rfl hl.1 (Nat.le_of_ble_eq_true rfl) ⟨Nat.le_of_ble_eq_true rfl, Nat.le_of_ble_eq_true rfl⟩ ⟨Nat.le_of_ble_eq_true rfl, Nat.le_of_ble_eq_true rfl⟩ dX7_readBuoy_100 rfl (fun H locs hP hS => ?_)
      obtain ⟨x17, I18, ht, hf⟩ := ob2_e hf
      have K3 : ∀ (H : Heap) (locs : List Loc) (ls : Array Slot), va_P g.1 vwCl (zb_ws g nc (zb_ce g I18 J O)) H → va_S (zb_A g) s.heap H locs → lv_has ls 5 [(3, .int x12), (2, .int x10), (1, .int x4), (0, .ref (g.2.2 + 0))] → W p l e { frames := 4, cells := 0, slots := 0, locals := 90 } s m args below meth c H locs 0 0 (MQ below (zb_Po g nc (zb_ce g Iq J O) none) args s 0 0 (zb_A g)) (F0 m 119 ls [.int x17]) := by
        intro H locs ls hP hS hl
        refine lv_istore (lv' := [(4, .int x17), (3, .int x12), (2, .int x10), (1, .int x4), (0, .ref (g.2.2 + 0))]) hx hb dX7_readBuoy_119 hl (by decide) rfl (fun ls hl => ?_)
        refine lv_aload_n hx hb dX7_readBuoy_121 rfl (lv_at hl 4 rfl) ?_
        refine gf_X7_16 X hnI hP zk_0 dX7_readBuoy_122 ?_
        refine gf_X7_88 X hnI hP zk_25 dX7_readBuoy_125 ?_
        refine lv_iload_n hx hb dX7_readBuoy_128 rfl (lv_at hl 3 rfl) ?_
        refine lv_iload_n hx hb dX7_readBuoy_129 rfl (lv_at hl 2 rfl) ?_
        refine lv_iload_n hx hb dX7_readBuoy_130 rfl (lv_at hl 1 rfl) ?_
        refine lv_iload hx hb dX7_readBuoy_131 (lv_at hl 0 rfl) ?_
        obtain ⟨I19, hI19, hf⟩ := ob_e hf
        refine zr_cVv (rest := []) (As := [.int x4, .int x10, .int x12, .int x17]) X hP hS (ct_X0_add (g := g) (nc := nc) (I := I18) (J := J) (O := O) hnI l zb_isB25 hI19) cw_X7_92 (zr_recv X hP (Nat.lt_of_lt_of_le (zk_26).1 hnI) (zb_ceIo zk_26 (by decide)) rfl) rfl hl.1 (Nat.le_of_ble_eq_true rfl) ⟨Nat.le_of_ble_eq_true rfl, Nat.le_of_ble_eq_true rfl⟩ ⟨Nat.le_of_ble_eq_true rfl, Nat.le_of_ble_eq_true rfl⟩ dX7_readBuoy_133 rfl (fun H locs hP hS => ?_)
        cases hf
        exact zr_vret X hr hP hS rfl dX7_readBuoy_136
      have hf := ht
      refine lv_if_eq (tgt := 118) hx hb dX7_readBuoy_103 (by decide) (fun hc => ?_) (fun hc => ?_)
      · have hf := if_t hc hf
        refine lv_iconst (v := (0 : Int32)) hx hb dX7_readBuoy_118 (by decide) ?_
        cases hf
        exact K3 H locs ls hP hS (lv_sub hl [0, 1, 2, 3] rfl)
      · have hf := if_f hc hf
        refine lv_aload_n hx hb dX7_readBuoy_106 rfl (lv_at hl 3 rfl) ?_
        refine gf_X7_53 X hnI hP zk_0 dX7_readBuoy_107 ?_
        refine lv_bipush (v := (99 : Int32)) hx hb dX7_readBuoy_110 (by decide) ?_
        obtain ⟨x15, I16, hx15_I16, hf⟩ := ob2_e hf
        refine zr_cVi (rest := []) (As := [.int (99 : Int32)]) X hP hS (ct_X2_takeSigned (g := g) (nc := nc) (I := I13) (J := J) (O := O) hnI l  hx15_I16) cw_X7_468 (zr_recv X hP (Nat.lt_of_lt_of_le (zk_56).1 hnI) (zb_ceIo zk_56 (by decide)) rfl) rfl hl.1 (Nat.le_of_ble_eq_true rfl) ⟨Nat.le_of_ble_eq_true rfl, Nat.le_of_ble_eq_true rfl⟩ ⟨Nat.le_of_ble_eq_true rfl, Nat.le_of_ble_eq_true rfl⟩ dX7_readBuoy_112 rfl (fun H locs hP hS => ?_)
        refine lv_goto (tgt := 119) hx hb dX7_readBuoy_115 (by decide) ?_
        cases hf
        exact K3 H locs ls hP hS (lv_sub hl [0, 1, 2, 3] rfl)
    have hf := ht
    refine lv_icmp_gt (tgt := 66) hx hb dX7_readBuoy_55 (by decide) (fun hc => ?_) (fun hc => ?_)
    · have hf := if_t hc hf
      cases hf
      exact K2 H locs ls hP hS (lv_sub hl [0, 1] rfl)
    · have hf := if_f hc hf
      refine lv_aload_n hx hb dX7_readBuoy_58 rfl (lv_at hl 1 rfl) ?_
      refine gf_X7_53 X hnI hP zk_0 dX7_readBuoy_59 ?_
      refine lv_iconst (v := (3 : Int32)) hx hb dX7_readBuoy_62 (by decide) ?_
      obtain ⟨I7, hI7, hf⟩ := ob_e hf
      refine zr_cVv (rest := []) (As := [.int (3 : Int32)]) X hP hS (ct_X2_fail (g := g) (nc := nc) (I := I5) (J := J) (O := O) hnI l  hI7) cw_X7_456 (zr_recv X hP (Nat.lt_of_lt_of_le (zk_56).1 hnI) (zb_ceIo zk_56 (by decide)) rfl) rfl hl.1 (Nat.le_of_ble_eq_true rfl) ⟨Nat.le_of_ble_eq_true rfl, Nat.le_of_ble_eq_true rfl⟩ ⟨Nat.le_of_ble_eq_true rfl, Nat.le_of_ble_eq_true rfl⟩ dX7_readBuoy_63 rfl (fun H locs hP hS => ?_)
      cases hf
      exact K2 H locs ls hP hS (lv_sub hl [0, 1] rfl)
  have hf := ht
  refine lv_icmp_lt (tgt := 23) hx hb dX7_readBuoy_12 (by decide) (fun hc => ?_) (fun hc => ?_)
  · have hf := if_t hc hf
    cases hf
    exact K1 H locs ls hP hS (lv_sub hl [0] rfl)
  · have hf := if_f hc hf
    refine lv_aload_n hx hb dX7_readBuoy_15 rfl (lv_at hl 0 rfl) ?_
    refine gf_X7_53 X hnI hP zk_0 dX7_readBuoy_16 ?_
    refine lv_iconst (v := (4 : Int32)) hx hb dX7_readBuoy_19 (by decide) ?_
    obtain ⟨I1, hI1, hf⟩ := ob_e hf
    refine zr_cVv (rest := []) (As := [.int (4 : Int32)]) X hP hS (ct_X2_fail (g := g) (nc := nc) (I := I) (J := J) (O := O) hnI l  hI1) cw_X7_456 (zr_recv X hP (Nat.lt_of_lt_of_le (zk_56).1 hnI) (zb_ceIo zk_56 (by decide)) rfl) rfl hl.1 (Nat.le_of_ble_eq_true rfl) ⟨Nat.le_of_ble_eq_true rfl, Nat.le_of_ble_eq_true rfl⟩ ⟨Nat.le_of_ble_eq_true rfl, Nat.le_of_ble_eq_true rfl⟩ dX7_readBuoy_20 rfl (fun H locs hP hS => ?_)
    cases hf
    exact K1 H locs ls hP hS (lv_sub hl [0] rfl)
set_option maxHeartbeats 4000000 in
set_option maxRecDepth 100000 in
theorem ct_X7_readRope {g : zb_G} {nc : Nat} (hnI : 306 ≤ nc) (l : Launch) {I J O : Mem} {Iq : Mem} (hf : fX7_readRope I = some Iq) : zb_Ct l g nc yX7_readRope cX7_readRope 2 none 3 67 [.ref (g.2.2 + 0)] (zb_ce g I J O) none (zb_ce g Iq J O) := by
  refine zb_ofW (own := RX7) (by decide +kernel) rfl (Nat.le_of_ble_eq_true rfl) ?_
  intro p e s m args below meth c ls X hr hP hl
  have hx := X.1.1
  have hb := X.1.2.1
  have ho := X.1.2.2.2.1
  have hts := X.1.2.2.2.2
  have hZ := X.2.2.2
  have hl : lv_has ls 2 [(0, .ref (g.2.2 + 0))] := hl
  have hS : va_S (zb_A g) s.heap s.heap [] := va_S.rf
  obtain ⟨H, hH⟩ : ∃ H, H = s.heap := ⟨_, rfl⟩
  obtain ⟨locs, hlocs⟩ : ∃ z : List Loc, z = [] := ⟨_, rfl⟩
  rw [← hH] at hP
  have hS : va_S (zb_A g) s.heap H locs := by rw [hH, hlocs]; exact hS
  show W p l e _ s m args below meth c s.heap [] 0 0 _ _
  rw [← hH, ← hlocs]
  rw [fX7_readRope] at hf
  refine lv_aload_n hx hb dX7_readRope_0 rfl (lv_at hl 0 rfl) ?_
  refine gf_X7_53 X hnI hP zk_0 dX7_readRope_1 ?_
  refine lv_bipush (v := (9 : Int32)) hx hb dX7_readRope_4 (by decide) ?_
  obtain ⟨I1, hI1, hf⟩ := ob_e hf
  refine zr_cVv (rest := []) (As := [.int (9 : Int32)]) X hP hS (ct_X2_takeKind (g := g) (nc := nc) (I := I) (J := J) (O := O) hnI l  hI1) cw_X7_438 (zr_recv X hP (Nat.lt_of_lt_of_le (zk_56).1 hnI) (zb_ceIo zk_56 (by decide)) rfl) rfl hl.1 (Nat.le_of_ble_eq_true rfl) ⟨Nat.le_of_ble_eq_true rfl, Nat.le_of_ble_eq_true rfl⟩ ⟨Nat.le_of_ble_eq_true rfl, Nat.le_of_ble_eq_true rfl⟩ dX7_readRope_6 rfl (fun H locs hP hS => ?_)
  refine lv_aload_n hx hb dX7_readRope_9 rfl (lv_at hl 0 rfl) ?_
  refine gf_X7_53 X hnI hP zk_0 dX7_readRope_10 ?_
  refine lv_iconst (v := (0 : Int32)) hx hb dX7_readRope_13 (by decide) ?_
  refine lv_aload_n hx hb dX7_readRope_14 rfl (lv_at hl 0 rfl) ?_
  refine gf_X7_16 X hnI hP zk_0 dX7_readRope_15 ?_
  refine gf_X7_88 X hnI hP zk_25 dX7_readRope_18 ?_
  refine gf_X7_133 X hnI hP zk_26 dX7_readRope_21 ?_
  refine lv_iconst (v := (2 : Int32)) hx hb dX7_readRope_24 (by decide) ?_
  refine lv_isub hx hb dX7_readRope_25 ?_
  obtain ⟨x2, I3, hx2_I3, hf⟩ := ob2_e hf
  refine zr_cVi (rest := []) (As := [.int (0 : Int32), .int ((I1 26 0) - (2 : Int32))]) X hP hS (ct_X2_takeNumber (g := g) (nc := nc) (I := I1) (J := J) (O := O) hnI l  hx2_I3) cw_X7_441 (zr_recv X hP (Nat.lt_of_lt_of_le (zk_56).1 hnI) (zb_ceIo zk_56 (by decide)) rfl) rfl hl.1 (Nat.le_of_ble_eq_true rfl) ⟨Nat.le_of_ble_eq_true rfl, Nat.le_of_ble_eq_true rfl⟩ ⟨Nat.le_of_ble_eq_true rfl, Nat.le_of_ble_eq_true rfl⟩ dX7_readRope_26 rfl (fun H locs hP hS => ?_)
  refine lv_istore_n (lv' := [(1, .int x2), (0, .ref (g.2.2 + 0))]) hx hb dX7_readRope_29 rfl hl (by decide) rfl (fun ls hl => ?_)
  refine lv_aload_n hx hb dX7_readRope_30 rfl (lv_at hl 1 rfl) ?_
  refine gf_X7_16 X hnI hP zk_0 dX7_readRope_31 ?_
  refine gf_X7_159 X hnI hP zk_25 dX7_readRope_34 ?_
  refine lv_iload_n hx hb dX7_readRope_37 rfl (lv_at hl 0 rfl) ?_
  refine lv_aload_n hx hb dX7_readRope_38 rfl (lv_at hl 1 rfl) ?_
  refine gf_X7_53 X hnI hP zk_0 dX7_readRope_39 ?_
  refine lv_iconst (v := (1 : Int32)) hx hb dX7_readRope_42 (by decide) ?_
  refine lv_bipush (v := (99 : Int32)) hx hb dX7_readRope_43 (by decide) ?_
  obtain ⟨x4, I5, hx4_I5, hf⟩ := ob2_e hf
  refine zr_cVi (rest := [.int x2, .ref (g.2.2 + 36)]) (As := [.int (1 : Int32), .int (99 : Int32)]) X hP hS (ct_X2_takeNumber (g := g) (nc := nc) (I := I3) (J := J) (O := O) hnI l  hx4_I5) cw_X7_441 (zr_recv X hP (Nat.lt_of_lt_of_le (zk_56).1 hnI) (zb_ceIo zk_56 (by decide)) rfl) rfl hl.1 (Nat.le_of_ble_eq_true rfl) ⟨Nat.le_of_ble_eq_true rfl, Nat.le_of_ble_eq_true rfl⟩ ⟨Nat.le_of_ble_eq_true rfl, Nat.le_of_ble_eq_true rfl⟩ dX7_readRope_45 rfl (fun H locs hP hS => ?_)
  obtain ⟨I6, hI6, hf⟩ := ob_e hf
  refine zr_cVv (rest := []) (As := [.int x2, .int x4]) X hP hS (ct_X3_strengthen (g := g) (nc := nc) (I := I5) (J := J) (O := O) hnI l zb_isB25 hI6) cw_X7_471 (zr_recv X hP (Nat.lt_of_lt_of_le (zk_36).1 hnI) (zb_ceIo zk_36 (by decide)) rfl) rfl hl.1 (Nat.le_of_ble_eq_true rfl) ⟨Nat.le_of_ble_eq_true rfl, Nat.le_of_ble_eq_true rfl⟩ ⟨Nat.le_of_ble_eq_true rfl, Nat.le_of_ble_eq_true rfl⟩ dX7_readRope_48 rfl (fun H locs hP hS => ?_)
  cases hf
  exact zr_vret X hr hP hS rfl dX7_readRope_51
set_option maxHeartbeats 4000000 in
set_option maxRecDepth 100000 in
theorem lpX7_readSetup_L85 {g : zb_G} {nc : Nat} (hnI : 306 ≤ nc) (l : Launch) {J O : Mem} {p : Program} {e : Env} {s : State} {m : MethodId} {args : Array Value} {below : List Frame} {meth : Method} {c : Code} {Q : State → Prop} (X : zb_X g p m c cX7_readSetup 2 s args RX7 meth) : ∀ {n9 : Nat} {a1 : Int32} {I : Mem} {Iz : Mem} {H : Heap} {locs : List Loc} {ls : Array Slot}, fX7_readSetup_L85 n9 a1 I = some Iz → (∀ (H : Heap) (locs : List Loc) (ls : Array Slot), va_P g.1 vwCl (zb_ws g nc (zb_ce g Iz J O)) H → va_S (zb_A g) s.heap H locs → lv_has ls 2 [(0, .ref (g.2.2 + 0))] → W p l e { frames := 8, cells := 0, slots := 0, locals := 195 } s m args below meth c H locs 0 0 Q (F0 m 202 ls [])) → va_P g.1 vwCl (zb_ws g nc (zb_ce g I J O)) H → va_S (zb_A g) s.heap H locs → lv_has ls 2 [(1, .int a1), (0, .ref (g.2.2 + 0))] → W p l e { frames := 8, cells := 0, slots := 0, locals := 195 } s m args below meth c H locs 0 0 Q (F0 m 85 ls []) := by
  have hx := X.1.1
  have hb := X.1.2.1
  have ho := X.1.2.2.2.1
  have hts := X.1.2.2.2.2
  have hZ := X.2.2.2
  intro n9
  induction n9 with
  | zero =>
    intro a1 I Iz H locs ls hf
    exact nomatch hf
  | succ n9 ih =>
    intro a1 I Iz H locs ls hf KK hP hS hl
    rw [fX7_readSetup_L85] at hf
    refine lv_iload_n hx hb dX7_readSetup_85 rfl (lv_at hl 0 rfl) ?_
    refine lv_sipush (v := (500 : Int32)) hx hb dX7_readSetup_86 (by decide) ?_
    refine lv_icmp_ge (tgt := 202) hx hb dX7_readSetup_89 (by decide) (fun hc => ?_) (fun hc => ?_)
    · have hf := if_t hc hf
      cases hf
      exact KK H locs ls hP hS (lv_sub hl [1] rfl)
    · have hf := if_f hc hf
      refine lv_aload_n hx hb dX7_readSetup_92 rfl (lv_at hl 1 rfl) ?_
      refine gf_X7_53 X hnI hP zk_0 dX7_readSetup_93 ?_
      obtain ⟨x11, hx11, hf⟩ := ob_e hf
      refine zr_cVi (rest := []) (As := []) X hP hS (ct_X2_hasMore (g := g) (nc := nc) (I := I) (J := J) (O := O) hnI l  hx11) cw_X7_444 (zr_recv X hP (Nat.lt_of_lt_of_le (zk_56).1 hnI) (zb_ceIo zk_56 (by decide)) rfl) rfl hl.1 (Nat.le_of_ble_eq_true rfl) ⟨Nat.le_of_ble_eq_true rfl, Nat.le_of_ble_eq_true rfl⟩ ⟨Nat.le_of_ble_eq_true rfl, Nat.le_of_ble_eq_true rfl⟩ dX7_readSetup_96 rfl (fun H locs hP hS => ?_)
      refine lv_if_eq (tgt := 202) hx hb dX7_readSetup_99 (by decide) (fun hc => ?_) (fun hc => ?_)
      · have hf := if_t hc hf
        cases hf
        exact KK H locs ls hP hS (lv_sub hl [1] rfl)
      · have hf := if_f hc hf
        refine lv_aload_n hx hb dX7_readSetup_102 rfl (lv_at hl 1 rfl) ?_
        refine gf_X7_53 X hnI hP zk_0 dX7_readSetup_103 ?_
        obtain ⟨x12, hx12, hf⟩ := ob_e hf
        refine zr_cVi (rest := []) (As := []) X hP hS (ct_X2_kindNow (g := g) (nc := nc) (I := I) (J := J) (O := O) hnI l  hx12) cw_X7_447 (zr_recv X hP (Nat.lt_of_lt_of_le (zk_56).1 hnI) (zb_ceIo zk_56 (by decide)) rfl) rfl hl.1 (Nat.le_of_ble_eq_true rfl) ⟨Nat.le_of_ble_eq_true rfl, Nat.le_of_ble_eq_true rfl⟩ ⟨Nat.le_of_ble_eq_true rfl, Nat.le_of_ble_eq_true rfl⟩ dX7_readSetup_106 rfl (fun H locs hP hS => ?_)
        obtain ⟨I19, ht, hf⟩ := ob_e hf
        have K1 : ∀ (H : Heap) (locs : List Loc) (ls : Array Slot), va_P g.1 vwCl (zb_ws g nc (zb_ce g I19 J O)) H → va_S (zb_A g) s.heap H locs → lv_has ls 2 [(1, .int a1), (0, .ref (g.2.2 + 0))] → W p l e { frames := 8, cells := 0, slots := 0, locals := 195 } s m args below meth c H locs 0 0 Q (F0 m 188 ls []) := by
          intro H locs ls hP hS hl
          refine lv_aload_n hx hb dX7_readSetup_188 rfl (lv_at hl 1 rfl) ?_
          refine gf_X7_53 X hnI hP zk_0 dX7_readSetup_189 ?_
          refine lv_iconst (v := (3 : Int32)) hx hb dX7_readSetup_192 (by decide) ?_
          obtain ⟨I20, hI20, hf⟩ := ob_e hf
          refine zr_cVv (rest := []) (As := [.int (3 : Int32)]) X hP hS (ct_X2_takeKind (g := g) (nc := nc) (I := I19) (J := J) (O := O) hnI l  hI20) cw_X7_438 (zr_recv X hP (Nat.lt_of_lt_of_le (zk_56).1 hnI) (zb_ceIo zk_56 (by decide)) rfl) rfl hl.1 (Nat.le_of_ble_eq_true rfl) ⟨Nat.le_of_ble_eq_true rfl, Nat.le_of_ble_eq_true rfl⟩ ⟨Nat.le_of_ble_eq_true rfl, Nat.le_of_ble_eq_true rfl⟩ dX7_readSetup_193 rfl (fun H locs hP hS => ?_)
          refine lv_iinc (v := (a1 + (1 : Int32))) (lv' := [(1, .int (a1 + (1 : Int32))), (0, .ref (g.2.2 + 0))]) hx hb dX7_readSetup_196 hl (k := 0) rfl rfl (by decide) rfl (fun ls hl => ?_)
          refine lv_goto (tgt := 85) hx hb dX7_readSetup_199 (by decide) ?_
          exact ih hf KK hP hS (lv_sub hl [0, 1] rfl)
        have hf := ht
        rcases Classical.em (x12 = (8 : Int32)) with q8 | q8
        · have hf := if_t q8 hf
          refine lv_tableIn (off := 27) (tgt := 136) hx hb dX7_readSetup_109 (by rw [q8]; decide) (by rw [q8]; decide) (by rw [q8]; rfl) (by decide) ?_
          refine lv_aload_n hx hb dX7_readSetup_136 rfl (lv_at hl 1 rfl) ?_
          obtain ⟨I13, hI13, hf⟩ := ob_e hf
          refine zr_cVv (rest := []) (As := []) X hP hS (ct_X7_readBuoy (g := g) (nc := nc) (I := I) (J := J) (O := O) hnI l  hI13) cw_X7_450 (zr_recv X hP (Nat.lt_of_lt_of_le (zk_0).1 hnI) (zb_ceIo zk_0 (by decide)) rfl) rfl hl.1 (Nat.le_of_ble_eq_true rfl) ⟨Nat.le_of_ble_eq_true rfl, Nat.le_of_ble_eq_true rfl⟩ ⟨Nat.le_of_ble_eq_true rfl, Nat.le_of_ble_eq_true rfl⟩ dX7_readSetup_137 rfl (fun H locs hP hS => ?_)
          refine lv_goto (tgt := 188) hx hb dX7_readSetup_140 (by decide) ?_
          cases hf
          exact K1 H locs ls hP hS (lv_sub hl [0, 1] rfl)
        have hf := if_f q8 hf
        rcases Classical.em (x12 = (9 : Int32)) with q9 | q9
        · have hf := if_t q9 hf
          refine lv_tableIn (off := 34) (tgt := 143) hx hb dX7_readSetup_109 (by rw [q9]; decide) (by rw [q9]; decide) (by rw [q9]; rfl) (by decide) ?_
          refine lv_aload_n hx hb dX7_readSetup_143 rfl (lv_at hl 1 rfl) ?_
          obtain ⟨I14, hI14, hf⟩ := ob_e hf
          refine zr_cVv (rest := []) (As := []) X hP hS (ct_X7_readRope (g := g) (nc := nc) (I := I) (J := J) (O := O) hnI l  hI14) cw_X7_453 (zr_recv X hP (Nat.lt_of_lt_of_le (zk_0).1 hnI) (zb_ceIo zk_0 (by decide)) rfl) rfl hl.1 (Nat.le_of_ble_eq_true rfl) ⟨Nat.le_of_ble_eq_true rfl, Nat.le_of_ble_eq_true rfl⟩ ⟨Nat.le_of_ble_eq_true rfl, Nat.le_of_ble_eq_true rfl⟩ dX7_readSetup_144 rfl (fun H locs hP hS => ?_)
          refine lv_goto (tgt := 188) hx hb dX7_readSetup_147 (by decide) ?_
          cases hf
          exact K1 H locs ls hP hS (lv_sub hl [0, 1] rfl)
        have hf := if_f q9 hf
        rcases Classical.em (x12 = (10 : Int32)) with q10 | q10
        · have hf := if_t q10 hf
          refine lv_tableIn (off := 41) (tgt := 150) hx hb dX7_readSetup_109 (by rw [q10]; decide) (by rw [q10]; decide) (by rw [q10]; rfl) (by decide) ?_
          refine lv_aload_n hx hb dX7_readSetup_150 rfl (lv_at hl 1 rfl) ?_
          refine gf_X7_53 X hnI hP zk_0 dX7_readSetup_151 ?_
          refine lv_bipush (v := (10 : Int32)) hx hb dX7_readSetup_154 (by decide) ?_
          obtain ⟨I15, hI15, hf⟩ := ob_e hf
          refine zr_cVv (rest := []) (As := [.int (10 : Int32)]) X hP hS (ct_X2_takeKind (g := g) (nc := nc) (I := I) (J := J) (O := O) hnI l  hI15) cw_X7_438 (zr_recv X hP (Nat.lt_of_lt_of_le (zk_56).1 hnI) (zb_ceIo zk_56 (by decide)) rfl) rfl hl.1 (Nat.le_of_ble_eq_true rfl) ⟨Nat.le_of_ble_eq_true rfl, Nat.le_of_ble_eq_true rfl⟩ ⟨Nat.le_of_ble_eq_true rfl, Nat.le_of_ble_eq_true rfl⟩ dX7_readSetup_156 rfl (fun H locs hP hS => ?_)
          refine lv_aload_n hx hb dX7_readSetup_159 rfl (lv_at hl 1 rfl) ?_
          refine gf_X7_16 X hnI hP zk_0 dX7_readSetup_160 ?_
          refine lv_aload_n hx hb dX7_readSetup_163 rfl (lv_at hl 1 rfl) ?_
          refine gf_X7_53 X hnI hP zk_0 dX7_readSetup_164 ?_
          refine lv_iconst (v := (0 : Int32)) hx hb dX7_readSetup_167 (by decide) ?_
          refine lv_ldcw (v := (99999 : Int32)) hx hb ho (hts _ wk_X7_379) dX7_readSetup_168 ?_
          obtain ⟨x16, I17, hx16_I17, hf⟩ := ob2_e hf
          refine zr_cVi (rest := [.ref (g.2.2 + 25)]) (As := [.int (0 : Int32), .int (99999 : Int32)]) X hP hS (ct_X2_takeNumber (g := g) (nc := nc) (I := I15) (J := J) (O := O) hnI l  hx16_I17) cw_X7_441 (zr_recv X hP (Nat.lt_of_lt_of_le (zk_56).1 hnI) (zb_ceIo zk_56 (by decide)) rfl) rfl hl.1 (Nat.le_of_ble_eq_true rfl) ⟨Nat.le_of_ble_eq_true rfl, Nat.le_of_ble_eq_true rfl⟩ ⟨Nat.le_of_ble_eq_true rfl, Nat.le_of_ble_eq_true rfl⟩ dX7_readSetup_171 rfl (fun H locs hP hS => ?_)
          refine pf_X7_123 X hnI hP hS zk_25 dX7_readSetup_174 (fun H locs hP hS => ?_)
          refine lv_goto (tgt := 188) hx hb dX7_readSetup_177 (by decide) ?_
          cases hf
          exact K1 H locs ls hP hS (lv_sub hl [0, 1] rfl)
        have hf := if_f q10 hf
        refine lv_tableOut (tgt := 180) hx hb dX7_readSetup_109 (by have z8 := zr_ne (k := 8) (by decide) q8; have z9 := zr_ne (k := 9) (by decide) q9; have z10 := zr_ne (k := 10) (by decide) q10; omega) (by decide) ?_
        refine lv_aload_n hx hb dX7_readSetup_180 rfl (lv_at hl 1 rfl) ?_
        refine gf_X7_53 X hnI hP zk_0 dX7_readSetup_181 ?_
        refine lv_iconst (v := (1 : Int32)) hx hb dX7_readSetup_184 (by decide) ?_
        obtain ⟨I18, hI18, hf⟩ := ob_e hf
        refine zr_cVv (rest := []) (As := [.int (1 : Int32)]) X hP hS (ct_X2_fail (g := g) (nc := nc) (I := I) (J := J) (O := O) hnI l  hI18) cw_X7_456 (zr_recv X hP (Nat.lt_of_lt_of_le (zk_56).1 hnI) (zb_ceIo zk_56 (by decide)) rfl) rfl hl.1 (Nat.le_of_ble_eq_true rfl) ⟨Nat.le_of_ble_eq_true rfl, Nat.le_of_ble_eq_true rfl⟩ ⟨Nat.le_of_ble_eq_true rfl, Nat.le_of_ble_eq_true rfl⟩ dX7_readSetup_185 rfl (fun H locs hP hS => ?_)
        cases hf
        exact K1 H locs ls hP hS (lv_sub hl [0, 1] rfl)
set_option maxHeartbeats 4000000 in
set_option maxRecDepth 100000 in
theorem ct_X7_readSetup {g : zb_G} {nc : Nat} (hnI : 306 ≤ nc) (l : Launch) {I J O : Mem} {Iq : Mem} (hf : fX7_readSetup I = some Iq) : zb_Ct l g nc yX7_readSetup cX7_readSetup 2 none 8 195 [.ref (g.2.2 + 0)] (zb_ce g I J O) none (zb_ce g Iq J O) := by
  refine zb_ofW (own := RX7) (by decide +kernel) rfl (Nat.le_of_ble_eq_true rfl) ?_
  intro p e s m args below meth c ls X hr hP hl
  have hx := X.1.1
  have hb := X.1.2.1
  have ho := X.1.2.2.2.1
  have hts := X.1.2.2.2.2
  have hZ := X.2.2.2
  have hl : lv_has ls 2 [(0, .ref (g.2.2 + 0))] := hl
  have hS : va_S (zb_A g) s.heap s.heap [] := va_S.rf
  obtain ⟨H, hH⟩ : ∃ H, H = s.heap := ⟨_, rfl⟩
  obtain ⟨locs, hlocs⟩ : ∃ z : List Loc, z = [] := ⟨_, rfl⟩
  rw [← hH] at hP
  have hS : va_S (zb_A g) s.heap H locs := by rw [hH, hlocs]; exact hS
  show W p l e _ s m args below meth c s.heap [] 0 0 _ _
  rw [← hH, ← hlocs]
  rw [fX7_readSetup] at hf
  refine lv_aload_n hx hb dX7_readSetup_0 rfl (lv_at hl 0 rfl) ?_
  refine gf_X7_16 X hnI hP zk_0 dX7_readSetup_1 ?_
  obtain ⟨I1, hI1, hf⟩ := ob_e hf
  refine zr_cVv (rest := []) (As := []) X hP hS (ct_X5_clear (g := g) (nc := nc) (I := I) (J := J) (O := O) hnI l zb_isB25 hI1) cw_X7_76 (zr_recv X hP (Nat.lt_of_lt_of_le (zk_25).1 hnI) (zb_ceIo zk_25 (by decide)) rfl) rfl hl.1 (Nat.le_of_ble_eq_true rfl) ⟨Nat.le_of_ble_eq_true rfl, Nat.le_of_ble_eq_true rfl⟩ ⟨Nat.le_of_ble_eq_true rfl, Nat.le_of_ble_eq_true rfl⟩ dX7_readSetup_4 rfl (fun H locs hP hS => ?_)
  refine lv_aload_n hx hb dX7_readSetup_7 rfl (lv_at hl 0 rfl) ?_
  refine gf_X7_53 X hnI hP zk_0 dX7_readSetup_8 ?_
  obtain ⟨I2, hI2, hf⟩ := ob_e hf
  refine zr_cVv (rest := []) (As := []) X hP hS (ct_X2_scan (g := g) (nc := nc) (I := I1) (J := J) (O := O) hnI l  hI2) cw_X7_435 (zr_recv X hP (Nat.lt_of_lt_of_le (zk_56).1 hnI) (zb_ceIo zk_56 (by decide)) rfl) rfl hl.1 (Nat.le_of_ble_eq_true rfl) ⟨Nat.le_of_ble_eq_true rfl, Nat.le_of_ble_eq_true rfl⟩ ⟨Nat.le_of_ble_eq_true rfl, Nat.le_of_ble_eq_true rfl⟩ dX7_readSetup_11 rfl (fun H locs hP hS => ?_)
  refine lv_aload_n hx hb dX7_readSetup_14 rfl (lv_at hl 0 rfl) ?_
  refine gf_X7_53 X hnI hP zk_0 dX7_readSetup_15 ?_
  refine lv_bipush (v := (7 : Int32)) hx hb dX7_readSetup_18 (by decide) ?_
  obtain ⟨I3, hI3, hf⟩ := ob_e hf
  refine zr_cVv (rest := []) (As := [.int (7 : Int32)]) X hP hS (ct_X2_takeKind (g := g) (nc := nc) (I := I2) (J := J) (O := O) hnI l  hI3) cw_X7_438 (zr_recv X hP (Nat.lt_of_lt_of_le (zk_56).1 hnI) (zb_ceIo zk_56 (by decide)) rfl) rfl hl.1 (Nat.le_of_ble_eq_true rfl) ⟨Nat.le_of_ble_eq_true rfl, Nat.le_of_ble_eq_true rfl⟩ ⟨Nat.le_of_ble_eq_true rfl, Nat.le_of_ble_eq_true rfl⟩ dX7_readSetup_20 rfl (fun H locs hP hS => ?_)
  refine lv_aload_n hx hb dX7_readSetup_23 rfl (lv_at hl 0 rfl) ?_
  refine gf_X7_16 X hnI hP zk_0 dX7_readSetup_24 ?_
  refine lv_aload_n hx hb dX7_readSetup_27 rfl (lv_at hl 0 rfl) ?_
  refine gf_X7_53 X hnI hP zk_0 dX7_readSetup_28 ?_
  refine lv_iconst (v := (0 : Int32)) hx hb dX7_readSetup_31 (by decide) ?_
  refine lv_sipush (v := (999 : Int32)) hx hb dX7_readSetup_32 (by decide) ?_
  obtain ⟨x4, I5, hx4_I5, hf⟩ := ob2_e hf
  refine zr_cVi (rest := [.ref (g.2.2 + 25)]) (As := [.int (0 : Int32), .int (999 : Int32)]) X hP hS (ct_X2_takeNumber (g := g) (nc := nc) (I := I3) (J := J) (O := O) hnI l  hx4_I5) cw_X7_441 (zr_recv X hP (Nat.lt_of_lt_of_le (zk_56).1 hnI) (zb_ceIo zk_56 (by decide)) rfl) rfl hl.1 (Nat.le_of_ble_eq_true rfl) ⟨Nat.le_of_ble_eq_true rfl, Nat.le_of_ble_eq_true rfl⟩ ⟨Nat.le_of_ble_eq_true rfl, Nat.le_of_ble_eq_true rfl⟩ dX7_readSetup_35 rfl (fun H locs hP hS => ?_)
  refine pf_X7_79 X hnI hP hS zk_25 dX7_readSetup_38 (fun H locs hP hS => ?_)
  refine lv_aload_n hx hb dX7_readSetup_41 rfl (lv_at hl 0 rfl) ?_
  refine gf_X7_16 X hnI hP zk_0 dX7_readSetup_42 ?_
  refine lv_aload_n hx hb dX7_readSetup_45 rfl (lv_at hl 0 rfl) ?_
  refine gf_X7_53 X hnI hP zk_0 dX7_readSetup_46 ?_
  refine lv_iconst (v := (1 : Int32)) hx hb dX7_readSetup_49 (by decide) ?_
  refine lv_bipush (v := (9 : Int32)) hx hb dX7_readSetup_50 (by decide) ?_
  obtain ⟨x6, I7, hx6_I7, hf⟩ := ob2_e hf
  refine zr_cVi (rest := [.ref (g.2.2 + 25)]) (As := [.int (1 : Int32), .int (9 : Int32)]) X hP hS (ct_X2_takeNumber (g := g) (nc := nc) (I := (wr I5 25 3 x4)) (J := J) (O := O) hnI l  hx6_I7) cw_X7_441 (zr_recv X hP (Nat.lt_of_lt_of_le (zk_56).1 hnI) (zb_ceIo zk_56 (by decide)) rfl) rfl hl.1 (Nat.le_of_ble_eq_true rfl) ⟨Nat.le_of_ble_eq_true rfl, Nat.le_of_ble_eq_true rfl⟩ ⟨Nat.le_of_ble_eq_true rfl, Nat.le_of_ble_eq_true rfl⟩ dX7_readSetup_52 rfl (fun H locs hP hS => ?_)
  refine pf_X7_82 X hnI hP hS zk_25 dX7_readSetup_55 (fun H locs hP hS => ?_)
  refine lv_aload_n hx hb dX7_readSetup_58 rfl (lv_at hl 0 rfl) ?_
  refine gf_X7_16 X hnI hP zk_0 dX7_readSetup_59 ?_
  refine lv_aload_n hx hb dX7_readSetup_62 rfl (lv_at hl 0 rfl) ?_
  refine gf_X7_53 X hnI hP zk_0 dX7_readSetup_63 ?_
  refine lv_iconst (v := (1 : Int32)) hx hb dX7_readSetup_66 (by decide) ?_
  refine lv_bipush (v := (9 : Int32)) hx hb dX7_readSetup_67 (by decide) ?_
  obtain ⟨x8, I9, hx8_I9, hf⟩ := ob2_e hf
  refine zr_cVi (rest := [.ref (g.2.2 + 25)]) (As := [.int (1 : Int32), .int (9 : Int32)]) X hP hS (ct_X2_takeNumber (g := g) (nc := nc) (I := (wr I7 25 4 x6)) (J := J) (O := O) hnI l  hx8_I9) cw_X7_441 (zr_recv X hP (Nat.lt_of_lt_of_le (zk_56).1 hnI) (zb_ceIo zk_56 (by decide)) rfl) rfl hl.1 (Nat.le_of_ble_eq_true rfl) ⟨Nat.le_of_ble_eq_true rfl, Nat.le_of_ble_eq_true rfl⟩ ⟨Nat.le_of_ble_eq_true rfl, Nat.le_of_ble_eq_true rfl⟩ dX7_readSetup_69 rfl (fun H locs hP hS => ?_)
  refine pf_X7_85 X hnI hP hS zk_25 dX7_readSetup_72 (fun H locs hP hS => ?_)
  refine lv_aload_n hx hb dX7_readSetup_75 rfl (lv_at hl 0 rfl) ?_
  refine gf_X7_53 X hnI hP zk_0 dX7_readSetup_76 ?_
  refine lv_iconst (v := (3 : Int32)) hx hb dX7_readSetup_79 (by decide) ?_
  obtain ⟨I10, hI10, hf⟩ := ob_e hf
  refine zr_cVv (rest := []) (As := [.int (3 : Int32)]) X hP hS (ct_X2_takeKind (g := g) (nc := nc) (I := (wr I9 25 5 x8)) (J := J) (O := O) hnI l  hI10) cw_X7_438 (zr_recv X hP (Nat.lt_of_lt_of_le (zk_56).1 hnI) (zb_ceIo zk_56 (by decide)) rfl) rfl hl.1 (Nat.le_of_ble_eq_true rfl) ⟨Nat.le_of_ble_eq_true rfl, Nat.le_of_ble_eq_true rfl⟩ ⟨Nat.le_of_ble_eq_true rfl, Nat.le_of_ble_eq_true rfl⟩ dX7_readSetup_80 rfl (fun H locs hP hS => ?_)
  refine lv_iconst (v := (0 : Int32)) hx hb dX7_readSetup_83 (by decide) ?_
  refine lv_istore_n (lv' := [(1, .int (0 : Int32)), (0, .ref (g.2.2 + 0))]) hx hb dX7_readSetup_84 rfl hl (by decide) rfl (fun ls hl => ?_)
  obtain ⟨I21, hI21, hf⟩ := ob_e hf
  have K2 : ∀ (H : Heap) (locs : List Loc) (ls : Array Slot), va_P g.1 vwCl (zb_ws g nc (zb_ce g I21 J O)) H → va_S (zb_A g) s.heap H locs → lv_has ls 2 [(0, .ref (g.2.2 + 0))] → W p l e { frames := 8, cells := 0, slots := 0, locals := 195 } s m args below meth c H locs 0 0 (MQ below (zb_Po g nc (zb_ce g Iq J O) none) args s 0 0 (zb_A g)) (F0 m 202 ls []) := by
    intro H locs ls hP hS hl
    refine lv_aload_n hx hb dX7_readSetup_202 rfl (lv_at hl 0 rfl) ?_
    refine gf_X7_16 X hnI hP zk_0 dX7_readSetup_203 ?_
    refine gf_X7_88 X hnI hP zk_25 dX7_readSetup_206 ?_
    refine gf_X7_133 X hnI hP zk_26 dX7_readSetup_209 ?_
    refine lv_iconst (v := (2 : Int32)) hx hb dX7_readSetup_212 (by decide) ?_
    obtain ⟨I23, ht, hf⟩ := ob_e hf
    have K3 : ∀ (H : Heap) (locs : List Loc) (ls : Array Slot), va_P g.1 vwCl (zb_ws g nc (zb_ce g I23 J O)) H → va_S (zb_A g) s.heap H locs → lv_has ls 2 [] → W p l e { frames := 8, cells := 0, slots := 0, locals := 195 } s m args below meth c H locs 0 0 (MQ below (zb_Po g nc (zb_ce g Iq J O) none) args s 0 0 (zb_A g)) (F0 m 224 ls []) := by
      intro H locs ls hP hS hl
      cases hf
      exact zr_vret X hr hP hS rfl dX7_readSetup_224
    have hf := ht
    refine lv_icmp_ge (tgt := 224) hx hb dX7_readSetup_213 (by decide) (fun hc => ?_) (fun hc => ?_)
    · have hf := if_t hc hf
      cases hf
      exact K3 H locs ls hP hS (lv_sub hl [] rfl)
    · have hf := if_f hc hf
      refine lv_aload_n hx hb dX7_readSetup_216 rfl (lv_at hl 0 rfl) ?_
      refine gf_X7_53 X hnI hP zk_0 dX7_readSetup_217 ?_
      refine lv_iconst (v := (5 : Int32)) hx hb dX7_readSetup_220 (by decide) ?_
      obtain ⟨I22, hI22, hf⟩ := ob_e hf
      refine zr_cVv (rest := []) (As := [.int (5 : Int32)]) X hP hS (ct_X2_fail (g := g) (nc := nc) (I := I21) (J := J) (O := O) hnI l  hI22) cw_X7_456 (zr_recv X hP (Nat.lt_of_lt_of_le (zk_56).1 hnI) (zb_ceIo zk_56 (by decide)) rfl) rfl hl.1 (Nat.le_of_ble_eq_true rfl) ⟨Nat.le_of_ble_eq_true rfl, Nat.le_of_ble_eq_true rfl⟩ ⟨Nat.le_of_ble_eq_true rfl, Nat.le_of_ble_eq_true rfl⟩ dX7_readSetup_221 rfl (fun H locs hP hS => ?_)
      cases hf
      exact K3 H locs ls hP hS (lv_sub hl [] rfl)
  exact lpX7_readSetup_L85 hnI l  X hI21 K2 hP hS (lv_sub hl [0, 1] rfl)
set_option maxHeartbeats 4000000 in
set_option maxRecDepth 100000 in
theorem ct_X7_closeText {g : zb_G} {nc : Nat} (hnI : 306 ≤ nc) (l : Launch) {I J O : Mem} {r9 : Int32} {Iq : Mem} (hf : fX7_closeText I = some (r9, Iq)) : zb_Ct l g nc yX7_closeText cX7_closeText 1 (some .boolean) 0 0 [.ref (g.2.2 + 0)] (zb_ce g I J O) (some (.int r9)) (zb_ce g Iq J O) := by
  refine zb_ofW (own := RX7) (by decide +kernel) rfl (Nat.le_of_ble_eq_true rfl) ?_
  intro p e s m args below meth c ls X hr hP hl
  have hx := X.1.1
  have hb := X.1.2.1
  have ho := X.1.2.2.2.1
  have hts := X.1.2.2.2.2
  have hZ := X.2.2.2
  have hl : lv_has ls 1 [(0, .ref (g.2.2 + 0))] := hl
  have hS : va_S (zb_A g) s.heap s.heap [] := va_S.rf
  obtain ⟨H, hH⟩ : ∃ H, H = s.heap := ⟨_, rfl⟩
  obtain ⟨locs, hlocs⟩ : ∃ z : List Loc, z = [] := ⟨_, rfl⟩
  rw [← hH] at hP
  have hS : va_S (zb_A g) s.heap H locs := by rw [hH, hlocs]; exact hS
  show W p l e _ s m args below meth c s.heap [] 0 0 _ _
  rw [← hH, ← hlocs]
  rw [fX7_closeText] at hf
  refine lv_aload_n hx hb dX7_closeText_0 rfl (lv_at hl 0 rfl) ?_
  refine lv_aload_n hx hb dX7_closeText_1 rfl (lv_at hl 0 rfl) ?_
  refine gf_X7_53 X hnI hP zk_0 dX7_closeText_2 ?_
  refine gf_X7_429 X hnI hP zk_56 dX7_closeText_5 ?_
  refine pf_X7_64 X hnI hP hS zk_0 dX7_closeText_8 (fun H locs hP hS => ?_)
  refine lv_aload_n hx hb dX7_closeText_11 rfl (lv_at hl 0 rfl) ?_
  refine lv_aload_n hx hb dX7_closeText_12 rfl (lv_at hl 0 rfl) ?_
  refine gf_X7_53 X hnI hP zk_0 dX7_closeText_13 ?_
  refine gf_X7_432 X hnI hP zk_56 dX7_closeText_16 ?_
  refine pf_X7_67 X hnI hP hS zk_0 dX7_closeText_19 (fun H locs hP hS => ?_)
  refine lv_aload_n hx hb dX7_closeText_22 rfl (lv_at hl 0 rfl) ?_
  refine gf_X7_53 X hnI hP zk_0 dX7_closeText_23 ?_
  refine lv_iconst (v := (0 : Int32)) hx hb dX7_closeText_26 (by decide) ?_
  refine pf_X7_102 X hnI hP hS zk_56 dX7_closeText_27 (fun H locs hP hS => ?_)
  refine lv_aload_n hx hb dX7_closeText_30 rfl (lv_at hl 0 rfl) ?_
  refine gf_X7_64 X hnI hP zk_0 dX7_closeText_31 ?_
  obtain ⟨x1, ht, hf⟩ := pl_e hf
  have K1 : ∀ (H : Heap) (locs : List Loc) (ls : Array Slot), va_P g.1 vwCl (zb_ws g nc (zb_ce g (wr (wr (wr I 0 12 (I 56 6)) 0 13 ((wr I 0 12 (I 56 6)) 56 7)) 56 1 (0 : Int32)) J O)) H → va_S (zb_A g) s.heap H locs → lv_has ls 1 [] → W p l e { frames := 0, cells := 0, slots := 0, locals := 0 } s m args below meth c H locs 0 0 (MQ below (zb_Po g nc (zb_ce g Iq J O) (some (.int r9))) args s 0 0 (zb_A g)) (F0 m 42 ls [.int x1]) := by
    intro H locs ls hP hS hl
    obtain ⟨v9, hv9, hf⟩ := ob_e hf
    obtain ⟨hn9, he9⟩ := zbo_e hv9
    cases hf
    cases he9
    exact zr_zret X hr hn9 hP hS dX7_closeText_42
  have hf := ht
  refine lv_if_ne (tgt := 41) hx hb dX7_closeText_34 (by decide) (fun hc => ?_) (fun hc => ?_)
  · have hf := if_f hc hf
    refine lv_iconst (v := (0 : Int32)) hx hb dX7_closeText_41 (by decide) ?_
    cases hf
    exact K1 H locs ls hP hS (lv_sub hl [] rfl)
  · have hf := if_t hc hf
    refine lv_iconst (v := (1 : Int32)) hx hb dX7_closeText_37 (by decide) ?_
    refine lv_goto (tgt := 42) hx hb dX7_closeText_38 (by decide) ?_
    cases hf
    exact K1 H locs ls hP hS (lv_sub hl [] rfl)
set_option maxHeartbeats 4000000 in
set_option maxRecDepth 100000 in
theorem ct_X7_load {g : zb_G} {nc : Nat} (hnI : 306 ≤ nc) (l : Launch) {I J O : Mem} {r9 : Int32} {Iq : Mem} (hf : fX7_load I = some (r9, Iq)) : zb_Ct l g nc yX7_load cX7_load 1 (some .int) 9 216 [.ref (g.2.2 + 0)] (zb_ce g I J O) (some (.int r9)) (zb_ce g Iq J O) := by
  refine zb_ofW (own := RX7) (by decide +kernel) rfl (Nat.le_of_ble_eq_true rfl) ?_
  intro p e s m args below meth c ls X hr hP hl
  have hx := X.1.1
  have hb := X.1.2.1
  have ho := X.1.2.2.2.1
  have hts := X.1.2.2.2.2
  have hZ := X.2.2.2
  have hl : lv_has ls 1 [(0, .ref (g.2.2 + 0))] := hl
  have hS : va_S (zb_A g) s.heap s.heap [] := va_S.rf
  obtain ⟨H, hH⟩ : ∃ H, H = s.heap := ⟨_, rfl⟩
  obtain ⟨locs, hlocs⟩ : ∃ z : List Loc, z = [] := ⟨_, rfl⟩
  rw [← hH] at hP
  have hS : va_S (zb_A g) s.heap H locs := by rw [hH, hlocs]; exact hS
  show W p l e _ s m args below meth c s.heap [] 0 0 _ _
  rw [← hH, ← hlocs]
  rw [fX7_load] at hf
  refine lv_aload_n hx hb dX7_load_0 rfl (lv_at hl 0 rfl) ?_
  obtain ⟨I1, hI1, hf⟩ := ob_e hf
  refine zr_cVv (rest := []) (As := []) X hP hS (ct_X7_readSetup (g := g) (nc := nc) (I := I) (J := J) (O := O) hnI l  hI1) cw_X7_116 (zr_recv X hP (Nat.lt_of_lt_of_le (zk_0).1 hnI) (zb_ceIo zk_0 (by decide)) rfl) rfl hl.1 (Nat.le_of_ble_eq_true rfl) ⟨Nat.le_of_ble_eq_true rfl, Nat.le_of_ble_eq_true rfl⟩ ⟨Nat.le_of_ble_eq_true rfl, Nat.le_of_ble_eq_true rfl⟩ dX7_load_1 rfl (fun H locs hP hS => ?_)
  refine lv_aload_n hx hb dX7_load_4 rfl (lv_at hl 0 rfl) ?_
  obtain ⟨x2, I3, hx2_I3, hf⟩ := ob2_e hf
  refine zr_cVi (rest := []) (As := []) X hP hS (ct_X7_closeText (g := g) (nc := nc) (I := I1) (J := J) (O := O) hnI l  hx2_I3) cw_X7_119 (zr_recv X hP (Nat.lt_of_lt_of_le (zk_0).1 hnI) (zb_ceIo zk_0 (by decide)) rfl) rfl hl.1 (Nat.le_of_ble_eq_true rfl) ⟨Nat.le_of_ble_eq_true rfl, Nat.le_of_ble_eq_true rfl⟩ ⟨Nat.le_of_ble_eq_true rfl, Nat.le_of_ble_eq_true rfl⟩ dX7_load_5 rfl (fun H locs hP hS => ?_)
  refine lv_if_ne (tgt := 13) hx hb dX7_load_8 (by decide) (fun hc => ?_) (fun hc => ?_)
  · have hf := if_f hc hf
    refine lv_aload_n hx hb dX7_load_13 rfl (lv_at hl 0 rfl) ?_
    refine gf_X7_16 X hnI hP zk_0 dX7_load_14 ?_
    refine lv_aload_n hx hb dX7_load_17 rfl (lv_at hl 0 rfl) ?_
    refine gf_X7_16 X hnI hP zk_0 dX7_load_18 ?_
    refine gf_X7_123 X hnI hP zk_25 dX7_load_21 ?_
    refine pf_X7_126 X hnI hP hS zk_25 dX7_load_24 (fun H locs hP hS => ?_)
    refine lv_aload_n hx hb dX7_load_27 rfl (lv_at hl 0 rfl) ?_
    refine gf_X7_10 X hnI hP zk_0 dX7_load_28 ?_
    refine lv_aload_n hx hb dX7_load_31 rfl (lv_at hl 0 rfl) ?_
    refine gf_X7_16 X hnI hP zk_0 dX7_load_32 ?_
    obtain ⟨I4, hI4, hf⟩ := ob_e hf
    refine zr_cVv (rest := []) (As := [.ref (g.2.2 + 25)]) X hP hS (ct_X5_copyFrom (g := g) (nc := nc) (I := (wr I3 25 10 (I3 25 6))) (J := J) (O := O) hnI l zb_isB1 zb_isB25 hI4) cw_X7_129 (zr_recv X hP (Nat.lt_of_lt_of_le (zk_1).1 hnI) (zb_ceIo zk_1 (by decide)) rfl) rfl hl.1 (Nat.le_of_ble_eq_true rfl) ⟨Nat.le_of_ble_eq_true rfl, Nat.le_of_ble_eq_true rfl⟩ ⟨Nat.le_of_ble_eq_true rfl, Nat.le_of_ble_eq_true rfl⟩ dX7_load_35 rfl (fun H locs hP hS => ?_)
    refine lv_aload_n hx hb dX7_load_38 rfl (lv_at hl 0 rfl) ?_
    refine lv_iconst (v := (0 : Int32)) hx hb dX7_load_39 (by decide) ?_
    refine pf_X7_23 X hnI hP hS zk_0 dX7_load_40 (fun H locs hP hS => ?_)
    refine lv_aload_n hx hb dX7_load_43 rfl (lv_at hl 0 rfl) ?_
    refine gf_X7_10 X hnI hP zk_0 dX7_load_44 ?_
    refine gf_X7_88 X hnI hP zk_1 dX7_load_47 ?_
    refine gf_X7_133 X hnI hP zk_2 dX7_load_50 ?_
    cases hf
    exact zr_iret X hr hP hS dX7_load_53
  · have hf := if_t hc hf
    refine lv_iconst (v := (-1 : Int32)) hx hb dX7_load_11 (by decide) ?_
    cases hf
    exact zr_iret X hr hP hS dX7_load_12
set_option maxHeartbeats 4000000 in
set_option maxRecDepth 100000 in
theorem ct_X7_isCommand {g : zb_G} {nc : Nat} (l : Launch) {a0 : Int32} {I J O : Mem} {r9 : Int32} (hf : fX7_isCommand a0 = some r9) : zb_Ct l g nc yX7_isCommand cX7_isCommand 1 (some .boolean) 0 0 [.int a0] (zb_ce g I J O) (some (.int r9)) (zb_ce g I J O) := by
  refine zb_ofW (own := RX7) (by decide +kernel) rfl (Nat.le_of_ble_eq_true rfl) ?_
  intro p e s m args below meth c ls X hr hP hl
  have hx := X.1.1
  have hb := X.1.2.1
  have ho := X.1.2.2.2.1
  have hts := X.1.2.2.2.2
  have hZ := X.2.2.2
  have hl : lv_has ls 1 [(0, .int a0)] := hl
  have hS : va_S (zb_A g) s.heap s.heap [] := va_S.rf
  obtain ⟨H, hH⟩ : ∃ H, H = s.heap := ⟨_, rfl⟩
  obtain ⟨locs, hlocs⟩ : ∃ z : List Loc, z = [] := ⟨_, rfl⟩
  rw [← hH] at hP
  have hS : va_S (zb_A g) s.heap H locs := by rw [hH, hlocs]; exact hS
  show W p l e _ s m args below meth c s.heap [] 0 0 _ _
  rw [← hH, ← hlocs]
  rw [fX7_isCommand] at hf
  refine lv_iload_n hx hb dX7_isCommand_0 rfl (lv_at hl 0 rfl) ?_
  refine lv_bipush (v := (11 : Int32)) hx hb dX7_isCommand_1 (by decide) ?_
  obtain ⟨x1, ht, hf⟩ := pl_e hf
  have K1 : ∀ (H : Heap) (locs : List Loc) (ls : Array Slot), va_P g.1 vwCl (zb_ws g nc (zb_ce g I J O)) H → va_S (zb_A g) s.heap H locs → lv_has ls 1 [] → W p l e { frames := 0, cells := 0, slots := 0, locals := 0 } s m args below meth c H locs 0 0 (MQ below (zb_Po g nc (zb_ce g I J O) (some (.int r9))) args s 0 0 (zb_A g)) (F0 m 41 ls [.int x1]) := by
    intro H locs ls hP hS hl
    obtain ⟨v9, hv9, hf⟩ := ob_e hf
    obtain ⟨hn9, he9⟩ := zbo_e hv9
    cases hf
    cases he9
    exact zr_zret X hr hn9 hP hS dX7_isCommand_41
  have hf := ht
  refine lv_icmp_eq (tgt := 36) hx hb dX7_isCommand_3 (by decide) (fun hc => ?_) (fun hc => ?_)
  · have hf := if_t hc hf
    refine lv_iconst (v := (1 : Int32)) hx hb dX7_isCommand_36 (by decide) ?_
    refine lv_goto (tgt := 41) hx hb dX7_isCommand_37 (by decide) ?_
    cases hf
    exact K1 H locs ls hP hS (lv_sub hl [] rfl)
  · have hf := if_f hc hf
    refine lv_iload_n hx hb dX7_isCommand_6 rfl (lv_at hl 0 rfl) ?_
    refine lv_bipush (v := (12 : Int32)) hx hb dX7_isCommand_7 (by decide) ?_
    refine lv_icmp_eq (tgt := 36) hx hb dX7_isCommand_9 (by decide) (fun hc => ?_) (fun hc => ?_)
    · have hf := if_t hc hf
      refine lv_iconst (v := (1 : Int32)) hx hb dX7_isCommand_36 (by decide) ?_
      refine lv_goto (tgt := 41) hx hb dX7_isCommand_37 (by decide) ?_
      cases hf
      exact K1 H locs ls hP hS (lv_sub hl [] rfl)
    · have hf := if_f hc hf
      refine lv_iload_n hx hb dX7_isCommand_12 rfl (lv_at hl 0 rfl) ?_
      refine lv_bipush (v := (13 : Int32)) hx hb dX7_isCommand_13 (by decide) ?_
      refine lv_icmp_eq (tgt := 36) hx hb dX7_isCommand_15 (by decide) (fun hc => ?_) (fun hc => ?_)
      · have hf := if_t hc hf
        refine lv_iconst (v := (1 : Int32)) hx hb dX7_isCommand_36 (by decide) ?_
        refine lv_goto (tgt := 41) hx hb dX7_isCommand_37 (by decide) ?_
        cases hf
        exact K1 H locs ls hP hS (lv_sub hl [] rfl)
      · have hf := if_f hc hf
        refine lv_iload_n hx hb dX7_isCommand_18 rfl (lv_at hl 0 rfl) ?_
        refine lv_bipush (v := (14 : Int32)) hx hb dX7_isCommand_19 (by decide) ?_
        refine lv_icmp_eq (tgt := 36) hx hb dX7_isCommand_21 (by decide) (fun hc => ?_) (fun hc => ?_)
        · have hf := if_t hc hf
          refine lv_iconst (v := (1 : Int32)) hx hb dX7_isCommand_36 (by decide) ?_
          refine lv_goto (tgt := 41) hx hb dX7_isCommand_37 (by decide) ?_
          cases hf
          exact K1 H locs ls hP hS (lv_sub hl [] rfl)
        · have hf := if_f hc hf
          refine lv_iload_n hx hb dX7_isCommand_24 rfl (lv_at hl 0 rfl) ?_
          refine lv_bipush (v := (15 : Int32)) hx hb dX7_isCommand_25 (by decide) ?_
          refine lv_icmp_eq (tgt := 36) hx hb dX7_isCommand_27 (by decide) (fun hc => ?_) (fun hc => ?_)
          · have hf := if_t hc hf
            refine lv_iconst (v := (1 : Int32)) hx hb dX7_isCommand_36 (by decide) ?_
            refine lv_goto (tgt := 41) hx hb dX7_isCommand_37 (by decide) ?_
            cases hf
            exact K1 H locs ls hP hS (lv_sub hl [] rfl)
          · have hf := if_f hc hf
            refine lv_iload_n hx hb dX7_isCommand_30 rfl (lv_at hl 0 rfl) ?_
            refine lv_bipush (v := (10 : Int32)) hx hb dX7_isCommand_31 (by decide) ?_
            refine lv_icmp_ne (tgt := 40) hx hb dX7_isCommand_33 (by decide) (fun hc => ?_) (fun hc => ?_)
            · have hf := if_f hc hf
              refine lv_iconst (v := (0 : Int32)) hx hb dX7_isCommand_40 (by decide) ?_
              cases hf
              exact K1 H locs ls hP hS (lv_sub hl [] rfl)
            · have hf := if_t hc hf
              refine lv_iconst (v := (1 : Int32)) hx hb dX7_isCommand_36 (by decide) ?_
              refine lv_goto (tgt := 41) hx hb dX7_isCommand_37 (by decide) ?_
              cases hf
              exact K1 H locs ls hP hS (lv_sub hl [] rfl)
set_option maxHeartbeats 4000000 in
set_option maxRecDepth 100000 in
theorem ct_X7_takeCommandWord {g : zb_G} {nc : Nat} (hnI : 306 ≤ nc) (l : Launch) {I J O : Mem} {r9 : Int32} {Iq : Mem} (hf : fX7_takeCommandWord I = some (r9, Iq)) : zb_Ct l g nc yX7_takeCommandWord cX7_takeCommandWord 2 (some .int) 2 42 [.ref (g.2.2 + 0)] (zb_ce g I J O) (some (.int r9)) (zb_ce g Iq J O) := by
  refine zb_ofW (own := RX7) (by decide +kernel) rfl (Nat.le_of_ble_eq_true rfl) ?_
  intro p e s m args below meth c ls X hr hP hl
  have hx := X.1.1
  have hb := X.1.2.1
  have ho := X.1.2.2.2.1
  have hts := X.1.2.2.2.2
  have hZ := X.2.2.2
  have hl : lv_has ls 2 [(0, .ref (g.2.2 + 0))] := hl
  have hS : va_S (zb_A g) s.heap s.heap [] := va_S.rf
  obtain ⟨H, hH⟩ : ∃ H, H = s.heap := ⟨_, rfl⟩
  obtain ⟨locs, hlocs⟩ : ∃ z : List Loc, z = [] := ⟨_, rfl⟩
  rw [← hH] at hP
  have hS : va_S (zb_A g) s.heap H locs := by rw [hH, hlocs]; exact hS
  show W p l e _ s m args below meth c s.heap [] 0 0 _ _
  rw [← hH, ← hlocs]
  rw [fX7_takeCommandWord] at hf
  refine lv_aload_n hx hb dX7_takeCommandWord_0 rfl (lv_at hl 0 rfl) ?_
  refine gf_X7_53 X hnI hP zk_0 dX7_takeCommandWord_1 ?_
  obtain ⟨x1, hx1, hf⟩ := ob_e hf
  refine zr_cVi (rest := []) (As := []) X hP hS (ct_X2_kindNow (g := g) (nc := nc) (I := I) (J := J) (O := O) hnI l  hx1) cw_X7_447 (zr_recv X hP (Nat.lt_of_lt_of_le (zk_56).1 hnI) (zb_ceIo zk_56 (by decide)) rfl) rfl hl.1 (Nat.le_of_ble_eq_true rfl) ⟨Nat.le_of_ble_eq_true rfl, Nat.le_of_ble_eq_true rfl⟩ ⟨Nat.le_of_ble_eq_true rfl, Nat.le_of_ble_eq_true rfl⟩ dX7_takeCommandWord_4 rfl (fun H locs hP hS => ?_)
  refine lv_istore_n (lv' := [(1, .int x1), (0, .ref (g.2.2 + 0))]) hx hb dX7_takeCommandWord_7 rfl hl (by decide) rfl (fun ls hl => ?_)
  refine lv_iload_n hx hb dX7_takeCommandWord_8 rfl (lv_at hl 0 rfl) ?_
  obtain ⟨x2, hx2, hf⟩ := ob_e hf
  refine zr_cSi (rest := []) (As := [.int x1]) X hP hS (ct_X7_isCommand (g := g) (nc := nc) (I := I) (J := J) (O := O)  l  hx2) cw_X7_487  rfl hl.1 (Nat.le_of_ble_eq_true rfl) ⟨Nat.le_of_ble_eq_true rfl, Nat.le_of_ble_eq_true rfl⟩ ⟨Nat.le_of_ble_eq_true rfl, Nat.le_of_ble_eq_true rfl⟩ dX7_takeCommandWord_9 rfl (fun H locs hP hS => ?_)
  obtain ⟨I5, ht, hf⟩ := ob_e hf
  have K1 : ∀ (H : Heap) (locs : List Loc) (ls : Array Slot), va_P g.1 vwCl (zb_ws g nc (zb_ce g I5 J O)) H → va_S (zb_A g) s.heap H locs → lv_has ls 2 [(1, .int x1), (0, .ref (g.2.2 + 0))] → W p l e { frames := 2, cells := 0, slots := 0, locals := 42 } s m args below meth c H locs 0 0 (MQ below (zb_Po g nc (zb_ce g Iq J O) (some (.int r9))) args s 0 0 (zb_A g)) (F0 m 46 ls []) := by
    intro H locs ls hP hS hl
    refine lv_aload_n hx hb dX7_takeCommandWord_46 rfl (lv_at hl 1 rfl) ?_
    refine gf_X7_53 X hnI hP zk_0 dX7_takeCommandWord_47 ?_
    refine lv_iload_n hx hb dX7_takeCommandWord_50 rfl (lv_at hl 0 rfl) ?_
    obtain ⟨I6, hI6, hf⟩ := ob_e hf
    refine zr_cVv (rest := []) (As := [.int x1]) X hP hS (ct_X2_takeKind (g := g) (nc := nc) (I := I5) (J := J) (O := O) hnI l  hI6) cw_X7_438 (zr_recv X hP (Nat.lt_of_lt_of_le (zk_56).1 hnI) (zb_ceIo zk_56 (by decide)) rfl) rfl hl.1 (Nat.le_of_ble_eq_true rfl) ⟨Nat.le_of_ble_eq_true rfl, Nat.le_of_ble_eq_true rfl⟩ ⟨Nat.le_of_ble_eq_true rfl, Nat.le_of_ble_eq_true rfl⟩ dX7_takeCommandWord_51 rfl (fun H locs hP hS => ?_)
    refine lv_aload_n hx hb dX7_takeCommandWord_54 rfl (lv_at hl 1 rfl) ?_
    refine gf_X7_60 X hnI hP zk_0 dX7_takeCommandWord_55 ?_
    refine lv_iload_n hx hb dX7_takeCommandWord_58 rfl (lv_at hl 0 rfl) ?_
    obtain ⟨I7, hI7, hf⟩ := ob_e hf
    refine zr_cVv (rest := []) (As := [.int x1]) X hP hS (ct_X4_begin (g := g) (nc := nc) (I := I6) (J := J) (O := O) hnI l  hI7) cw_X7_490 (zr_recv X hP (Nat.lt_of_lt_of_le (zk_61).1 hnI) (zb_ceIo zk_61 (by decide)) rfl) rfl hl.1 (Nat.le_of_ble_eq_true rfl) ⟨Nat.le_of_ble_eq_true rfl, Nat.le_of_ble_eq_true rfl⟩ ⟨Nat.le_of_ble_eq_true rfl, Nat.le_of_ble_eq_true rfl⟩ dX7_takeCommandWord_59 rfl (fun H locs hP hS => ?_)
    refine lv_iload_n hx hb dX7_takeCommandWord_62 rfl (lv_at hl 0 rfl) ?_
    cases hf
    exact zr_iret X hr hP hS dX7_takeCommandWord_63
  have hf := ht
  refine lv_if_ne (tgt := 26) hx hb dX7_takeCommandWord_12 (by decide) (fun hc => ?_) (fun hc => ?_)
  · have hf := if_f hc hf
    refine lv_aload_n hx hb dX7_takeCommandWord_26 rfl (lv_at hl 1 rfl) ?_
    refine gf_X7_60 X hnI hP zk_0 dX7_takeCommandWord_27 ?_
    refine gf_X7_139 X hnI hP zk_61 dX7_takeCommandWord_30 ?_
    refine lv_bipush (v := (40 : Int32)) hx hb dX7_takeCommandWord_33 (by decide) ?_
    refine lv_icmp_lt (tgt := 46) hx hb dX7_takeCommandWord_35 (by decide) (fun hc => ?_) (fun hc => ?_)
    · have hf := if_t hc hf
      cases hf
      exact K1 H locs ls hP hS (lv_sub hl [0, 1] rfl)
    · have hf := if_f hc hf
      refine lv_aload_n hx hb dX7_takeCommandWord_38 rfl (lv_at hl 1 rfl) ?_
      refine gf_X7_53 X hnI hP zk_0 dX7_takeCommandWord_39 ?_
      refine lv_iconst (v := (4 : Int32)) hx hb dX7_takeCommandWord_42 (by decide) ?_
      obtain ⟨I3, hI3, hf⟩ := ob_e hf
      refine zr_cVv (rest := []) (As := [.int (4 : Int32)]) X hP hS (ct_X2_fail (g := g) (nc := nc) (I := I) (J := J) (O := O) hnI l  hI3) cw_X7_456 (zr_recv X hP (Nat.lt_of_lt_of_le (zk_56).1 hnI) (zb_ceIo zk_56 (by decide)) rfl) rfl hl.1 (Nat.le_of_ble_eq_true rfl) ⟨Nat.le_of_ble_eq_true rfl, Nat.le_of_ble_eq_true rfl⟩ ⟨Nat.le_of_ble_eq_true rfl, Nat.le_of_ble_eq_true rfl⟩ dX7_takeCommandWord_43 rfl (fun H locs hP hS => ?_)
      cases hf
      exact K1 H locs ls hP hS (lv_sub hl [0, 1] rfl)
  · have hf := if_t hc hf
    refine lv_aload_n hx hb dX7_takeCommandWord_15 rfl (lv_at hl 1 rfl) ?_
    refine gf_X7_53 X hnI hP zk_0 dX7_takeCommandWord_16 ?_
    refine lv_iconst (v := (1 : Int32)) hx hb dX7_takeCommandWord_19 (by decide) ?_
    obtain ⟨I4, hI4, hf⟩ := ob_e hf
    refine zr_cVv (rest := []) (As := [.int (1 : Int32)]) X hP hS (ct_X2_fail (g := g) (nc := nc) (I := I) (J := J) (O := O) hnI l  hI4) cw_X7_456 (zr_recv X hP (Nat.lt_of_lt_of_le (zk_56).1 hnI) (zb_ceIo zk_56 (by decide)) rfl) rfl hl.1 (Nat.le_of_ble_eq_true rfl) ⟨Nat.le_of_ble_eq_true rfl, Nat.le_of_ble_eq_true rfl⟩ ⟨Nat.le_of_ble_eq_true rfl, Nat.le_of_ble_eq_true rfl⟩ dX7_takeCommandWord_20 rfl (fun H locs hP hS => ?_)
    refine lv_goto (tgt := 46) hx hb dX7_takeCommandWord_23 (by decide) ?_
    cases hf
    exact K1 H locs ls hP hS (lv_sub hl [0, 1] rfl)
set_option maxHeartbeats 4000000 in
set_option maxRecDepth 100000 in
theorem lpX7_readReports_L4 {g : zb_G} {nc : Nat} (hnI : 306 ≤ nc) (l : Launch) {J O : Mem} {p : Program} {e : Env} {s : State} {m : MethodId} {args : Array Value} {below : List Frame} {meth : Method} {c : Code} {Q : State → Prop} (X : zb_X g p m c cX7_readReports 4 s args RX7 meth) : ∀ {n9 : Nat} {a2 : Int32} {a1 : Int32} {I : Mem} {Iz : Mem} {H : Heap} {locs : List Loc} {ls : Array Slot}, fX7_readReports_L4 n9 a2 a1 I = some Iz → (∀ (H : Heap) (locs : List Loc) (ls : Array Slot), va_P g.1 vwCl (zb_ws g nc (zb_ce g Iz J O)) H → va_S (zb_A g) s.heap H locs → lv_has ls 4 [] → W p l e { frames := 4, cells := 0, slots := 0, locals := 90 } s m args below meth c H locs 0 0 Q (F0 m 113 ls [])) → va_P g.1 vwCl (zb_ws g nc (zb_ce g I J O)) H → va_S (zb_A g) s.heap H locs → lv_has ls 4 [(2, .int a2), (1, .int a1), (0, .ref (g.2.2 + 0))] → W p l e { frames := 4, cells := 0, slots := 0, locals := 90 } s m args below meth c H locs 0 0 Q (F0 m 4 ls []) := by
  have hx := X.1.1
  have hb := X.1.2.1
  have ho := X.1.2.2.2.1
  have hts := X.1.2.2.2.2
  have hZ := X.2.2.2
  intro n9
  induction n9 with
  | zero =>
    intro a2 a1 I Iz H locs ls hf
    exact nomatch hf
  | succ n9 ih =>
    intro a2 a1 I Iz H locs ls hf KK hP hS hl
    rw [fX7_readReports_L4] at hf
    refine lv_iload_n hx hb dX7_readReports_4 rfl (lv_at hl 0 rfl) ?_
    refine lv_bipush (v := (10 : Int32)) hx hb dX7_readReports_5 (by decide) ?_
    refine lv_icmp_gt (tgt := 113) hx hb dX7_readReports_7 (by decide) (fun hc => ?_) (fun hc => ?_)
    · have hf := if_t hc hf
      cases hf
      exact KK H locs ls hP hS (lv_sub hl [] rfl)
    · have hf := if_f hc hf
      refine lv_aload_n hx hb dX7_readReports_10 rfl (lv_at hl 2 rfl) ?_
      refine gf_X7_53 X hnI hP zk_0 dX7_readReports_11 ?_
      obtain ⟨x1, hx1, hf⟩ := ob_e hf
      refine zr_cVi (rest := []) (As := []) X hP hS (ct_X2_hasMore (g := g) (nc := nc) (I := I) (J := J) (O := O) hnI l  hx1) cw_X7_444 (zr_recv X hP (Nat.lt_of_lt_of_le (zk_56).1 hnI) (zb_ceIo zk_56 (by decide)) rfl) rfl hl.1 (Nat.le_of_ble_eq_true rfl) ⟨Nat.le_of_ble_eq_true rfl, Nat.le_of_ble_eq_true rfl⟩ ⟨Nat.le_of_ble_eq_true rfl, Nat.le_of_ble_eq_true rfl⟩ dX7_readReports_14 rfl (fun H locs hP hS => ?_)
      refine lv_if_eq (tgt := 113) hx hb dX7_readReports_17 (by decide) (fun hc => ?_) (fun hc => ?_)
      · have hf := if_t hc hf
        cases hf
        exact KK H locs ls hP hS (lv_sub hl [] rfl)
      · have hf := if_f hc hf
        refine lv_aload_n hx hb dX7_readReports_20 rfl (lv_at hl 2 rfl) ?_
        refine gf_X7_53 X hnI hP zk_0 dX7_readReports_21 ?_
        obtain ⟨x2, hx2, hf⟩ := ob_e hf
        refine zr_cVi (rest := []) (As := []) X hP hS (ct_X2_kindNow (g := g) (nc := nc) (I := I) (J := J) (O := O) hnI l  hx2) cw_X7_447 (zr_recv X hP (Nat.lt_of_lt_of_le (zk_56).1 hnI) (zb_ceIo zk_56 (by decide)) rfl) rfl hl.1 (Nat.le_of_ble_eq_true rfl) ⟨Nat.le_of_ble_eq_true rfl, Nat.le_of_ble_eq_true rfl⟩ ⟨Nat.le_of_ble_eq_true rfl, Nat.le_of_ble_eq_true rfl⟩ dX7_readReports_24 rfl (fun H locs hP hS => ?_)
        refine lv_iconst (v := (1 : Int32)) hx hb dX7_readReports_27 (by decide) ?_
        refine lv_icmp_ne (tgt := 113) hx hb dX7_readReports_28 (by decide) (fun hc => ?_) (fun hc => ?_)
        · have hf := if_f hc hf
          cases hf
          exact KK H locs ls hP hS (lv_sub hl [] rfl)
        · have hf := if_t hc hf
          refine lv_aload_n hx hb dX7_readReports_31 rfl (lv_at hl 2 rfl) ?_
          refine gf_X7_53 X hnI hP zk_0 dX7_readReports_32 ?_
          refine lv_iconst (v := (0 : Int32)) hx hb dX7_readReports_35 (by decide) ?_
          refine lv_aload_n hx hb dX7_readReports_36 rfl (lv_at hl 2 rfl) ?_
          refine gf_X7_10 X hnI hP zk_0 dX7_readReports_37 ?_
          refine gf_X7_88 X hnI hP zk_1 dX7_readReports_40 ?_
          refine gf_X7_133 X hnI hP zk_2 dX7_readReports_43 ?_
          refine lv_iconst (v := (1 : Int32)) hx hb dX7_readReports_46 (by decide) ?_
          refine lv_isub hx hb dX7_readReports_47 ?_
          obtain ⟨x3, I4, hx3_I4, hf⟩ := ob2_e hf
          refine zr_cVi (rest := []) (As := [.int (0 : Int32), .int ((I 2 0) - (1 : Int32))]) X hP hS (ct_X2_lookNumber (g := g) (nc := nc) (I := I) (J := J) (O := O) hnI l  hx3_I4) cw_X7_459 (zr_recv X hP (Nat.lt_of_lt_of_le (zk_56).1 hnI) (zb_ceIo zk_56 (by decide)) rfl) rfl hl.1 (Nat.le_of_ble_eq_true rfl) ⟨Nat.le_of_ble_eq_true rfl, Nat.le_of_ble_eq_true rfl⟩ ⟨Nat.le_of_ble_eq_true rfl, Nat.le_of_ble_eq_true rfl⟩ dX7_readReports_48 rfl (fun H locs hP hS => ?_)
          refine lv_istore_n (lv' := [(3, .int x3), (2, .int a2), (1, .int a1), (0, .ref (g.2.2 + 0))]) hx hb dX7_readReports_51 rfl hl (by decide) rfl (fun ls hl => ?_)
          refine lv_iload_n hx hb dX7_readReports_52 rfl (lv_at hl 2 rfl) ?_
          refine lv_iload_n hx hb dX7_readReports_53 rfl (lv_at hl 0 rfl) ?_
          obtain ⟨x5, hx5, hf⟩ := ob_e hf
          refine zr_cSi (rest := []) (As := [.int a1, .int x3]) X hP hS (ct_X7_has (g := g) (nc := nc) (I := I4) (J := J) (O := O)  l  hx5) cw_X7_215  rfl hl.1 (Nat.le_of_ble_eq_true rfl) ⟨Nat.le_of_ble_eq_true rfl, Nat.le_of_ble_eq_true rfl⟩ ⟨Nat.le_of_ble_eq_true rfl, Nat.le_of_ble_eq_true rfl⟩ dX7_readReports_54 rfl (fun H locs hP hS => ?_)
          obtain ⟨I7, ht, hf⟩ := ob_e hf
          have K1 : ∀ (H : Heap) (locs : List Loc) (ls : Array Slot), va_P g.1 vwCl (zb_ws g nc (zb_ce g I7 J O)) H → va_S (zb_A g) s.heap H locs → lv_has ls 4 [(3, .int x3), (2, .int a2), (1, .int a1), (0, .ref (g.2.2 + 0))] → W p l e { frames := 4, cells := 0, slots := 0, locals := 90 } s m args below meth c H locs 0 0 Q (F0 m 68 ls []) := by
            intro H locs ls hP hS hl
            refine lv_aload_n hx hb dX7_readReports_68 rfl (lv_at hl 3 rfl) ?_
            refine gf_X7_53 X hnI hP zk_0 dX7_readReports_69 ?_
            refine lv_iconst (v := (1 : Int32)) hx hb dX7_readReports_72 (by decide) ?_
            obtain ⟨I8, hI8, hf⟩ := ob_e hf
            refine zr_cVv (rest := []) (As := [.int (1 : Int32)]) X hP hS (ct_X2_takeKind (g := g) (nc := nc) (I := I7) (J := J) (O := O) hnI l  hI8) cw_X7_438 (zr_recv X hP (Nat.lt_of_lt_of_le (zk_56).1 hnI) (zb_ceIo zk_56 (by decide)) rfl) rfl hl.1 (Nat.le_of_ble_eq_true rfl) ⟨Nat.le_of_ble_eq_true rfl, Nat.le_of_ble_eq_true rfl⟩ ⟨Nat.le_of_ble_eq_true rfl, Nat.le_of_ble_eq_true rfl⟩ dX7_readReports_73 rfl (fun H locs hP hS => ?_)
            refine lv_iload_n hx hb dX7_readReports_76 rfl (lv_at hl 2 rfl) ?_
            refine lv_iconst (v := (1 : Int32)) hx hb dX7_readReports_77 (by decide) ?_
            refine lv_iload_n hx hb dX7_readReports_78 rfl (lv_at hl 0 rfl) ?_
            refine lv_ishl hx hb dX7_readReports_79 ?_
            refine lv_ior hx hb dX7_readReports_80 ?_
            refine lv_istore_n (lv' := [(1, .int (a1 ||| ((1 : Int32) <<< (x3 &&& 31)))), (3, .int x3), (2, .int a2), (0, .ref (g.2.2 + 0))]) hx hb dX7_readReports_81 rfl hl (by decide) rfl (fun ls hl => ?_)
            refine lv_aload_n hx hb dX7_readReports_82 rfl (lv_at hl 3 rfl) ?_
            refine gf_X7_60 X hnI hP zk_0 dX7_readReports_83 ?_
            refine lv_iload_n hx hb dX7_readReports_86 rfl (lv_at hl 1 rfl) ?_
            obtain ⟨I9, hI9, hf⟩ := ob_e hf
            refine zr_cVv (rest := []) (As := [.int x3]) X hP hS (ct_X4_add (g := g) (nc := nc) (I := I8) (J := J) (O := O) hnI l  hI9) cw_X7_482 (zr_recv X hP (Nat.lt_of_lt_of_le (zk_61).1 hnI) (zb_ceIo zk_61 (by decide)) rfl) rfl hl.1 (Nat.le_of_ble_eq_true rfl) ⟨Nat.le_of_ble_eq_true rfl, Nat.le_of_ble_eq_true rfl⟩ ⟨Nat.le_of_ble_eq_true rfl, Nat.le_of_ble_eq_true rfl⟩ dX7_readReports_87 rfl (fun H locs hP hS => ?_)
            refine lv_aload_n hx hb dX7_readReports_90 rfl (lv_at hl 3 rfl) ?_
            refine gf_X7_60 X hnI hP zk_0 dX7_readReports_91 ?_
            refine lv_aload_n hx hb dX7_readReports_94 rfl (lv_at hl 3 rfl) ?_
            refine gf_X7_53 X hnI hP zk_0 dX7_readReports_95 ?_
            refine lv_sipush (v := (9999 : Int32)) hx hb dX7_readReports_98 (by decide) ?_
            obtain ⟨x10, I11, hx10_I11, hf⟩ := ob2_e hf
            refine zr_cVi (rest := [.ref (g.2.2 + 61)]) (As := [.int (9999 : Int32)]) X hP hS (ct_X2_takeSigned (g := g) (nc := nc) (I := I9) (J := J) (O := O) hnI l  hx10_I11) cw_X7_468 (zr_recv X hP (Nat.lt_of_lt_of_le (zk_56).1 hnI) (zb_ceIo zk_56 (by decide)) rfl) rfl hl.1 (Nat.le_of_ble_eq_true rfl) ⟨Nat.le_of_ble_eq_true rfl, Nat.le_of_ble_eq_true rfl⟩ ⟨Nat.le_of_ble_eq_true rfl, Nat.le_of_ble_eq_true rfl⟩ dX7_readReports_101 rfl (fun H locs hP hS => ?_)
            obtain ⟨I12, hI12, hf⟩ := ob_e hf
            refine zr_cVv (rest := []) (As := [.int x10]) X hP hS (ct_X4_add (g := g) (nc := nc) (I := I11) (J := J) (O := O) hnI l  hI12) cw_X7_482 (zr_recv X hP (Nat.lt_of_lt_of_le (zk_61).1 hnI) (zb_ceIo zk_61 (by decide)) rfl) rfl hl.1 (Nat.le_of_ble_eq_true rfl) ⟨Nat.le_of_ble_eq_true rfl, Nat.le_of_ble_eq_true rfl⟩ ⟨Nat.le_of_ble_eq_true rfl, Nat.le_of_ble_eq_true rfl⟩ dX7_readReports_104 rfl (fun H locs hP hS => ?_)
            refine lv_iinc (v := (a2 + (1 : Int32))) (lv' := [(2, .int (a2 + (1 : Int32))), (1, .int (a1 ||| ((1 : Int32) <<< (x3 &&& 31)))), (3, .int x3), (0, .ref (g.2.2 + 0))]) hx hb dX7_readReports_107 hl (k := 2) rfl rfl (by decide) rfl (fun ls hl => ?_)
            refine lv_goto (tgt := 4) hx hb dX7_readReports_110 (by decide) ?_
            exact ih hf KK hP hS (lv_sub hl [0, 1, 3] rfl)
          have hf := ht
          refine lv_if_eq (tgt := 68) hx hb dX7_readReports_57 (by decide) (fun hc => ?_) (fun hc => ?_)
          · have hf := if_t hc hf
            cases hf
            exact K1 H locs ls hP hS (lv_sub hl [0, 1, 2, 3] rfl)
          · have hf := if_f hc hf
            refine lv_aload_n hx hb dX7_readReports_60 rfl (lv_at hl 3 rfl) ?_
            refine gf_X7_53 X hnI hP zk_0 dX7_readReports_61 ?_
            refine lv_iconst (v := (3 : Int32)) hx hb dX7_readReports_64 (by decide) ?_
            obtain ⟨I6, hI6, hf⟩ := ob_e hf
            refine zr_cVv (rest := []) (As := [.int (3 : Int32)]) X hP hS (ct_X2_fail (g := g) (nc := nc) (I := I4) (J := J) (O := O) hnI l  hI6) cw_X7_456 (zr_recv X hP (Nat.lt_of_lt_of_le (zk_56).1 hnI) (zb_ceIo zk_56 (by decide)) rfl) rfl hl.1 (Nat.le_of_ble_eq_true rfl) ⟨Nat.le_of_ble_eq_true rfl, Nat.le_of_ble_eq_true rfl⟩ ⟨Nat.le_of_ble_eq_true rfl, Nat.le_of_ble_eq_true rfl⟩ dX7_readReports_65 rfl (fun H locs hP hS => ?_)
            cases hf
            exact K1 H locs ls hP hS (lv_sub hl [0, 1, 2, 3] rfl)
set_option maxHeartbeats 4000000 in
set_option maxRecDepth 100000 in
theorem ct_X7_readReports {g : zb_G} {nc : Nat} (hnI : 306 ≤ nc) (l : Launch) {I J O : Mem} {Iq : Mem} (hf : fX7_readReports I = some Iq) : zb_Ct l g nc yX7_readReports cX7_readReports 4 none 4 90 [.ref (g.2.2 + 0)] (zb_ce g I J O) none (zb_ce g Iq J O) := by
  refine zb_ofW (own := RX7) (by decide +kernel) rfl (Nat.le_of_ble_eq_true rfl) ?_
  intro p e s m args below meth c ls X hr hP hl
  have hx := X.1.1
  have hb := X.1.2.1
  have ho := X.1.2.2.2.1
  have hts := X.1.2.2.2.2
  have hZ := X.2.2.2
  have hl : lv_has ls 4 [(0, .ref (g.2.2 + 0))] := hl
  have hS : va_S (zb_A g) s.heap s.heap [] := va_S.rf
  obtain ⟨H, hH⟩ : ∃ H, H = s.heap := ⟨_, rfl⟩
  obtain ⟨locs, hlocs⟩ : ∃ z : List Loc, z = [] := ⟨_, rfl⟩
  rw [← hH] at hP
  have hS : va_S (zb_A g) s.heap H locs := by rw [hH, hlocs]; exact hS
  show W p l e _ s m args below meth c s.heap [] 0 0 _ _
  rw [← hH, ← hlocs]
  rw [fX7_readReports] at hf
  refine lv_iconst (v := (0 : Int32)) hx hb dX7_readReports_0 (by decide) ?_
  refine lv_istore_n (lv' := [(1, .int (0 : Int32)), (0, .ref (g.2.2 + 0))]) hx hb dX7_readReports_1 rfl hl (by decide) rfl (fun ls hl => ?_)
  refine lv_iconst (v := (0 : Int32)) hx hb dX7_readReports_2 (by decide) ?_
  refine lv_istore_n (lv' := [(2, .int (0 : Int32)), (1, .int (0 : Int32)), (0, .ref (g.2.2 + 0))]) hx hb dX7_readReports_3 rfl hl (by decide) rfl (fun ls hl => ?_)
  obtain ⟨I13, hI13, hf⟩ := ob_e hf
  have K2 : ∀ (H : Heap) (locs : List Loc) (ls : Array Slot), va_P g.1 vwCl (zb_ws g nc (zb_ce g I13 J O)) H → va_S (zb_A g) s.heap H locs → lv_has ls 4 [] → W p l e { frames := 4, cells := 0, slots := 0, locals := 90 } s m args below meth c H locs 0 0 (MQ below (zb_Po g nc (zb_ce g Iq J O) none) args s 0 0 (zb_A g)) (F0 m 113 ls []) := by
    intro H locs ls hP hS hl
    cases hf
    exact zr_vret X hr hP hS rfl dX7_readReports_113
  exact lpX7_readReports_L4 hnI l  X hI13 K2 hP hS (lv_sub hl [0, 1, 2] rfl)
set_option maxHeartbeats 4000000 in
set_option maxRecDepth 100000 in
theorem ct_X7_readHitBuoys {g : zb_G} {nc : Nat} (hnI : 306 ≤ nc) (l : Launch) {I J O : Mem} {Iq : Mem} (hf : fX7_readHitBuoys I = some Iq) : zb_Ct l g nc yX7_readHitBuoys cX7_readHitBuoys 4 none 3 67 [.ref (g.2.2 + 0)] (zb_ce g I J O) none (zb_ce g Iq J O) := by
  refine zb_ofW (own := RX7) (by decide +kernel) rfl (Nat.le_of_ble_eq_true rfl) ?_
  intro p e s m args below meth c ls X hr hP hl
  have hx := X.1.1
  have hb := X.1.2.1
  have ho := X.1.2.2.2.1
  have hts := X.1.2.2.2.2
  have hZ := X.2.2.2
  have hl : lv_has ls 4 [(0, .ref (g.2.2 + 0))] := hl
  have hS : va_S (zb_A g) s.heap s.heap [] := va_S.rf
  obtain ⟨H, hH⟩ : ∃ H, H = s.heap := ⟨_, rfl⟩
  obtain ⟨locs, hlocs⟩ : ∃ z : List Loc, z = [] := ⟨_, rfl⟩
  rw [← hH] at hP
  have hS : va_S (zb_A g) s.heap H locs := by rw [hH, hlocs]; exact hS
  show W p l e _ s m args below meth c s.heap [] 0 0 _ _
  rw [← hH, ← hlocs]
  rw [fX7_readHitBuoys] at hf
  refine lv_aload_n hx hb dX7_readHitBuoys_0 rfl (lv_at hl 0 rfl) ?_
  refine gf_X7_10 X hnI hP zk_0 dX7_readHitBuoys_1 ?_
  refine gf_X7_88 X hnI hP zk_1 dX7_readHitBuoys_4 ?_
  refine gf_X7_133 X hnI hP zk_2 dX7_readHitBuoys_7 ?_
  refine lv_iconst (v := (1 : Int32)) hx hb dX7_readHitBuoys_10 (by decide) ?_
  refine lv_isub hx hb dX7_readHitBuoys_11 ?_
  refine lv_istore_n (lv' := [(1, .int ((I 2 0) - (1 : Int32))), (0, .ref (g.2.2 + 0))]) hx hb dX7_readHitBuoys_12 rfl hl (by decide) rfl (fun ls hl => ?_)
  refine lv_aload_n hx hb dX7_readHitBuoys_13 rfl (lv_at hl 1 rfl) ?_
  refine gf_X7_53 X hnI hP zk_0 dX7_readHitBuoys_14 ?_
  refine lv_iconst (v := (0 : Int32)) hx hb dX7_readHitBuoys_17 (by decide) ?_
  refine lv_iload_n hx hb dX7_readHitBuoys_18 rfl (lv_at hl 0 rfl) ?_
  obtain ⟨x1, I2, hx1_I2, hf⟩ := ob2_e hf
  refine zr_cVi (rest := []) (As := [.int (0 : Int32), .int ((I 2 0) - (1 : Int32))]) X hP hS (ct_X2_takeNumber (g := g) (nc := nc) (I := I) (J := J) (O := O) hnI l  hx1_I2) cw_X7_441 (zr_recv X hP (Nat.lt_of_lt_of_le (zk_56).1 hnI) (zb_ceIo zk_56 (by decide)) rfl) rfl hl.1 (Nat.le_of_ble_eq_true rfl) ⟨Nat.le_of_ble_eq_true rfl, Nat.le_of_ble_eq_true rfl⟩ ⟨Nat.le_of_ble_eq_true rfl, Nat.le_of_ble_eq_true rfl⟩ dX7_readHitBuoys_19 rfl (fun H locs hP hS => ?_)
  refine lv_istore_n (lv' := [(2, .int x1), (1, .int ((I 2 0) - (1 : Int32))), (0, .ref (g.2.2 + 0))]) hx hb dX7_readHitBuoys_22 rfl hl (by decide) rfl (fun ls hl => ?_)
  refine lv_aload_n hx hb dX7_readHitBuoys_23 rfl (lv_at hl 2 rfl) ?_
  refine gf_X7_53 X hnI hP zk_0 dX7_readHitBuoys_24 ?_
  refine lv_iconst (v := (0 : Int32)) hx hb dX7_readHitBuoys_27 (by decide) ?_
  refine lv_iload_n hx hb dX7_readHitBuoys_28 rfl (lv_at hl 1 rfl) ?_
  obtain ⟨x3, I4, hx3_I4, hf⟩ := ob2_e hf
  refine zr_cVi (rest := []) (As := [.int (0 : Int32), .int ((I 2 0) - (1 : Int32))]) X hP hS (ct_X2_lookNumber (g := g) (nc := nc) (I := I2) (J := J) (O := O) hnI l  hx3_I4) cw_X7_459 (zr_recv X hP (Nat.lt_of_lt_of_le (zk_56).1 hnI) (zb_ceIo zk_56 (by decide)) rfl) rfl hl.1 (Nat.le_of_ble_eq_true rfl) ⟨Nat.le_of_ble_eq_true rfl, Nat.le_of_ble_eq_true rfl⟩ ⟨Nat.le_of_ble_eq_true rfl, Nat.le_of_ble_eq_true rfl⟩ dX7_readHitBuoys_29 rfl (fun H locs hP hS => ?_)
  refine lv_istore_n (lv' := [(3, .int x3), (2, .int x1), (1, .int ((I 2 0) - (1 : Int32))), (0, .ref (g.2.2 + 0))]) hx hb dX7_readHitBuoys_32 rfl hl (by decide) rfl (fun ls hl => ?_)
  refine lv_iload_n hx hb dX7_readHitBuoys_33 rfl (lv_at hl 0 rfl) ?_
  refine lv_iload_n hx hb dX7_readHitBuoys_34 rfl (lv_at hl 1 rfl) ?_
  obtain ⟨I6, ht, hf⟩ := ob_e hf
  have K1 : ∀ (H : Heap) (locs : List Loc) (ls : Array Slot), va_P g.1 vwCl (zb_ws g nc (zb_ce g I6 J O)) H → va_S (zb_A g) s.heap H locs → lv_has ls 4 [(3, .int x3), (2, .int x1), (0, .ref (g.2.2 + 0))] → W p l e { frames := 3, cells := 0, slots := 0, locals := 67 } s m args below meth c H locs 0 0 (MQ below (zb_Po g nc (zb_ce g Iq J O) none) args s 0 0 (zb_A g)) (F0 m 46 ls []) := by
    intro H locs ls hP hS hl
    refine lv_aload_n hx hb dX7_readHitBuoys_46 rfl (lv_at hl 2 rfl) ?_
    refine gf_X7_53 X hnI hP zk_0 dX7_readHitBuoys_47 ?_
    refine lv_iconst (v := (1 : Int32)) hx hb dX7_readHitBuoys_50 (by decide) ?_
    obtain ⟨I7, hI7, hf⟩ := ob_e hf
    refine zr_cVv (rest := []) (As := [.int (1 : Int32)]) X hP hS (ct_X2_takeKind (g := g) (nc := nc) (I := I6) (J := J) (O := O) hnI l  hI7) cw_X7_438 (zr_recv X hP (Nat.lt_of_lt_of_le (zk_56).1 hnI) (zb_ceIo zk_56 (by decide)) rfl) rfl hl.1 (Nat.le_of_ble_eq_true rfl) ⟨Nat.le_of_ble_eq_true rfl, Nat.le_of_ble_eq_true rfl⟩ ⟨Nat.le_of_ble_eq_true rfl, Nat.le_of_ble_eq_true rfl⟩ dX7_readHitBuoys_51 rfl (fun H locs hP hS => ?_)
    refine lv_aload_n hx hb dX7_readHitBuoys_54 rfl (lv_at hl 2 rfl) ?_
    refine gf_X7_60 X hnI hP zk_0 dX7_readHitBuoys_55 ?_
    refine lv_iload_n hx hb dX7_readHitBuoys_58 rfl (lv_at hl 1 rfl) ?_
    obtain ⟨I8, hI8, hf⟩ := ob_e hf
    refine zr_cVv (rest := []) (As := [.int x1]) X hP hS (ct_X4_add (g := g) (nc := nc) (I := I7) (J := J) (O := O) hnI l  hI8) cw_X7_482 (zr_recv X hP (Nat.lt_of_lt_of_le (zk_61).1 hnI) (zb_ceIo zk_61 (by decide)) rfl) rfl hl.1 (Nat.le_of_ble_eq_true rfl) ⟨Nat.le_of_ble_eq_true rfl, Nat.le_of_ble_eq_true rfl⟩ ⟨Nat.le_of_ble_eq_true rfl, Nat.le_of_ble_eq_true rfl⟩ dX7_readHitBuoys_59 rfl (fun H locs hP hS => ?_)
    refine lv_aload_n hx hb dX7_readHitBuoys_62 rfl (lv_at hl 2 rfl) ?_
    refine gf_X7_60 X hnI hP zk_0 dX7_readHitBuoys_63 ?_
    refine lv_iload_n hx hb dX7_readHitBuoys_66 rfl (lv_at hl 0 rfl) ?_
    obtain ⟨I9, hI9, hf⟩ := ob_e hf
    refine zr_cVv (rest := []) (As := [.int x3]) X hP hS (ct_X4_add (g := g) (nc := nc) (I := I8) (J := J) (O := O) hnI l  hI9) cw_X7_482 (zr_recv X hP (Nat.lt_of_lt_of_le (zk_61).1 hnI) (zb_ceIo zk_61 (by decide)) rfl) rfl hl.1 (Nat.le_of_ble_eq_true rfl) ⟨Nat.le_of_ble_eq_true rfl, Nat.le_of_ble_eq_true rfl⟩ ⟨Nat.le_of_ble_eq_true rfl, Nat.le_of_ble_eq_true rfl⟩ dX7_readHitBuoys_67 rfl (fun H locs hP hS => ?_)
    cases hf
    exact zr_vret X hr hP hS rfl dX7_readHitBuoys_70
  have hf := ht
  refine lv_icmp_ge (tgt := 46) hx hb dX7_readHitBuoys_35 (by decide) (fun hc => ?_) (fun hc => ?_)
  · have hf := if_t hc hf
    cases hf
    exact K1 H locs ls hP hS (lv_sub hl [0, 1, 3] rfl)
  · have hf := if_f hc hf
    refine lv_aload_n hx hb dX7_readHitBuoys_38 rfl (lv_at hl 3 rfl) ?_
    refine gf_X7_53 X hnI hP zk_0 dX7_readHitBuoys_39 ?_
    refine lv_iconst (v := (3 : Int32)) hx hb dX7_readHitBuoys_42 (by decide) ?_
    obtain ⟨I5, hI5, hf⟩ := ob_e hf
    refine zr_cVv (rest := []) (As := [.int (3 : Int32)]) X hP hS (ct_X2_fail (g := g) (nc := nc) (I := I4) (J := J) (O := O) hnI l  hI5) cw_X7_456 (zr_recv X hP (Nat.lt_of_lt_of_le (zk_56).1 hnI) (zb_ceIo zk_56 (by decide)) rfl) rfl hl.1 (Nat.le_of_ble_eq_true rfl) ⟨Nat.le_of_ble_eq_true rfl, Nat.le_of_ble_eq_true rfl⟩ ⟨Nat.le_of_ble_eq_true rfl, Nat.le_of_ble_eq_true rfl⟩ dX7_readHitBuoys_43 rfl (fun H locs hP hS => ?_)
    cases hf
    exact K1 H locs ls hP hS (lv_sub hl [0, 1, 3] rfl)
set_option maxHeartbeats 4000000 in
set_option maxRecDepth 100000 in
theorem lpX7_readScript_L27 {g : zb_G} {nc : Nat} (hnI : 306 ≤ nc) (l : Launch) {a1 : Int32} {J O : Mem} {p : Program} {e : Env} {s : State} {m : MethodId} {args : Array Value} {below : List Frame} {meth : Method} {c : Code} {Q : State → Prop} (X : zb_X g p m c cX7_readScript 3 s args RX7 meth) : ∀ {n9 : Nat} {a2 : Int32} {I : Mem} {Iz : Mem} {H : Heap} {locs : List Loc} {ls : Array Slot}, fX7_readScript_L27 a1 n9 a2 I = some Iz → (∀ (H : Heap) (locs : List Loc) (ls : Array Slot), va_P g.1 vwCl (zb_ws g nc (zb_ce g Iz J O)) H → va_S (zb_A g) s.heap H locs → lv_has ls 3 [] → W p l e { frames := 8, cells := 0, slots := 0, locals := 195 } s m args below meth c H locs 0 0 Q (F0 m 216 ls [])) → va_P g.1 vwCl (zb_ws g nc (zb_ce g I J O)) H → va_S (zb_A g) s.heap H locs → lv_has ls 3 [(2, .int a2), (1, .int a1), (0, .ref (g.2.2 + 0))] → W p l e { frames := 8, cells := 0, slots := 0, locals := 195 } s m args below meth c H locs 0 0 Q (F0 m 27 ls []) := by
  have hx := X.1.1
  have hb := X.1.2.1
  have ho := X.1.2.2.2.1
  have hts := X.1.2.2.2.2
  have hZ := X.2.2.2
  intro n9
  induction n9 with
  | zero =>
    intro a2 I Iz H locs ls hf
    exact nomatch hf
  | succ n9 ih =>
    intro a2 I Iz H locs ls hf KK hP hS hl
    rw [fX7_readScript_L27] at hf
    refine lv_iload_n hx hb dX7_readScript_27 rfl (lv_at hl 0 rfl) ?_
    refine lv_sipush (v := (500 : Int32)) hx hb dX7_readScript_28 (by decide) ?_
    refine lv_icmp_ge (tgt := 216) hx hb dX7_readScript_31 (by decide) (fun hc => ?_) (fun hc => ?_)
    · have hf := if_t hc hf
      cases hf
      exact KK H locs ls hP hS (lv_sub hl [] rfl)
    · have hf := if_f hc hf
      refine lv_aload_n hx hb dX7_readScript_34 rfl (lv_at hl 2 rfl) ?_
      refine gf_X7_53 X hnI hP zk_0 dX7_readScript_35 ?_
      obtain ⟨x3, hx3, hf⟩ := ob_e hf
      refine zr_cVi (rest := []) (As := []) X hP hS (ct_X2_hasMore (g := g) (nc := nc) (I := I) (J := J) (O := O) hnI l  hx3) cw_X7_444 (zr_recv X hP (Nat.lt_of_lt_of_le (zk_56).1 hnI) (zb_ceIo zk_56 (by decide)) rfl) rfl hl.1 (Nat.le_of_ble_eq_true rfl) ⟨Nat.le_of_ble_eq_true rfl, Nat.le_of_ble_eq_true rfl⟩ ⟨Nat.le_of_ble_eq_true rfl, Nat.le_of_ble_eq_true rfl⟩ dX7_readScript_38 rfl (fun H locs hP hS => ?_)
      refine lv_if_eq (tgt := 216) hx hb dX7_readScript_41 (by decide) (fun hc => ?_) (fun hc => ?_)
      · have hf := if_t hc hf
        cases hf
        exact KK H locs ls hP hS (lv_sub hl [] rfl)
      · have hf := if_f hc hf
        refine lv_aload_n hx hb dX7_readScript_44 rfl (lv_at hl 2 rfl) ?_
        obtain ⟨x4, I5, hx4_I5, hf⟩ := ob2_e hf
        refine zr_cVi (rest := []) (As := []) X hP hS (ct_X7_takeCommandWord (g := g) (nc := nc) (I := I) (J := J) (O := O) hnI l  hx4_I5) cw_X7_476 (zr_recv X hP (Nat.lt_of_lt_of_le (zk_0).1 hnI) (zb_ceIo zk_0 (by decide)) rfl) rfl hl.1 (Nat.le_of_ble_eq_true rfl) ⟨Nat.le_of_ble_eq_true rfl, Nat.le_of_ble_eq_true rfl⟩ ⟨Nat.le_of_ble_eq_true rfl, Nat.le_of_ble_eq_true rfl⟩ dX7_readScript_45 rfl (fun H locs hP hS => ?_)
        obtain ⟨I23, ht, hf⟩ := ob_e hf
        have K1 : ∀ (H : Heap) (locs : List Loc) (ls : Array Slot), va_P g.1 vwCl (zb_ws g nc (zb_ce g I23 J O)) H → va_S (zb_A g) s.heap H locs → lv_has ls 3 [(2, .int a2), (1, .int a1), (0, .ref (g.2.2 + 0))] → W p l e { frames := 8, cells := 0, slots := 0, locals := 195 } s m args below meth c H locs 0 0 Q (F0 m 202 ls []) := by
          intro H locs ls hP hS hl
          refine lv_aload_n hx hb dX7_readScript_202 rfl (lv_at hl 2 rfl) ?_
          refine gf_X7_53 X hnI hP zk_0 dX7_readScript_203 ?_
          refine lv_iconst (v := (3 : Int32)) hx hb dX7_readScript_206 (by decide) ?_
          obtain ⟨I24, hI24, hf⟩ := ob_e hf
          refine zr_cVv (rest := []) (As := [.int (3 : Int32)]) X hP hS (ct_X2_takeKind (g := g) (nc := nc) (I := I23) (J := J) (O := O) hnI l  hI24) cw_X7_438 (zr_recv X hP (Nat.lt_of_lt_of_le (zk_56).1 hnI) (zb_ceIo zk_56 (by decide)) rfl) rfl hl.1 (Nat.le_of_ble_eq_true rfl) ⟨Nat.le_of_ble_eq_true rfl, Nat.le_of_ble_eq_true rfl⟩ ⟨Nat.le_of_ble_eq_true rfl, Nat.le_of_ble_eq_true rfl⟩ dX7_readScript_207 rfl (fun H locs hP hS => ?_)
          refine lv_iinc (v := (a2 + (1 : Int32))) (lv' := [(2, .int (a2 + (1 : Int32))), (1, .int a1), (0, .ref (g.2.2 + 0))]) hx hb dX7_readScript_210 hl (k := 0) rfl rfl (by decide) rfl (fun ls hl => ?_)
          refine lv_goto (tgt := 27) hx hb dX7_readScript_213 (by decide) ?_
          exact ih hf KK hP hS (lv_sub hl [0, 1, 2] rfl)
        have hf := ht
        rcases Classical.em (x4 = (10 : Int32)) with q10 | q10
        · have hf := if_t q10 hf
          refine lv_tableIn (off := 133) (tgt := 181) hx hb dX7_readScript_48 (by rw [q10]; decide) (by rw [q10]; decide) (by rw [q10]; rfl) (by decide) ?_
          refine lv_aload_n hx hb dX7_readScript_181 rfl (lv_at hl 2 rfl) ?_
          refine gf_X7_60 X hnI hP zk_0 dX7_readScript_182 ?_
          refine lv_aload_n hx hb dX7_readScript_185 rfl (lv_at hl 2 rfl) ?_
          refine gf_X7_53 X hnI hP zk_0 dX7_readScript_186 ?_
          refine lv_iconst (v := (1 : Int32)) hx hb dX7_readScript_189 (by decide) ?_
          refine lv_sipush (v := (9999 : Int32)) hx hb dX7_readScript_190 (by decide) ?_
          obtain ⟨x6, I7, hx6_I7, hf⟩ := ob2_e hf
          refine zr_cVi (rest := [.ref (g.2.2 + 61)]) (As := [.int (1 : Int32), .int (9999 : Int32)]) X hP hS (ct_X2_takeNumber (g := g) (nc := nc) (I := I5) (J := J) (O := O) hnI l  hx6_I7) cw_X7_441 (zr_recv X hP (Nat.lt_of_lt_of_le (zk_56).1 hnI) (zb_ceIo zk_56 (by decide)) rfl) rfl hl.1 (Nat.le_of_ble_eq_true rfl) ⟨Nat.le_of_ble_eq_true rfl, Nat.le_of_ble_eq_true rfl⟩ ⟨Nat.le_of_ble_eq_true rfl, Nat.le_of_ble_eq_true rfl⟩ dX7_readScript_193 rfl (fun H locs hP hS => ?_)
          obtain ⟨I8, hI8, hf⟩ := ob_e hf
          refine zr_cVv (rest := []) (As := [.int x6]) X hP hS (ct_X4_add (g := g) (nc := nc) (I := I7) (J := J) (O := O) hnI l  hI8) cw_X7_482 (zr_recv X hP (Nat.lt_of_lt_of_le (zk_61).1 hnI) (zb_ceIo zk_61 (by decide)) rfl) rfl hl.1 (Nat.le_of_ble_eq_true rfl) ⟨Nat.le_of_ble_eq_true rfl, Nat.le_of_ble_eq_true rfl⟩ ⟨Nat.le_of_ble_eq_true rfl, Nat.le_of_ble_eq_true rfl⟩ dX7_readScript_196 rfl (fun H locs hP hS => ?_)
          refine lv_goto (tgt := 202) hx hb dX7_readScript_199 (by decide) ?_
          cases hf
          exact K1 H locs ls hP hS (lv_sub hl [0, 1, 2] rfl)
        have hf := if_f q10 hf
        rcases Classical.em (x4 = (11 : Int32)) with q11 | q11
        · have hf := if_t q11 hf
          refine lv_tableIn (off := 40) (tgt := 88) hx hb dX7_readScript_48 (by rw [q11]; decide) (by rw [q11]; decide) (by rw [q11]; rfl) (by decide) ?_
          refine lv_aload_n hx hb dX7_readScript_88 rfl (lv_at hl 2 rfl) ?_
          obtain ⟨I9, hI9, hf⟩ := ob_e hf
          refine zr_cVv (rest := []) (As := []) X hP hS (ct_X7_readReports (g := g) (nc := nc) (I := I5) (J := J) (O := O) hnI l  hI9) cw_X7_479 (zr_recv X hP (Nat.lt_of_lt_of_le (zk_0).1 hnI) (zb_ceIo zk_0 (by decide)) rfl) rfl hl.1 (Nat.le_of_ble_eq_true rfl) ⟨Nat.le_of_ble_eq_true rfl, Nat.le_of_ble_eq_true rfl⟩ ⟨Nat.le_of_ble_eq_true rfl, Nat.le_of_ble_eq_true rfl⟩ dX7_readScript_89 rfl (fun H locs hP hS => ?_)
          refine lv_goto (tgt := 202) hx hb dX7_readScript_92 (by decide) ?_
          cases hf
          exact K1 H locs ls hP hS (lv_sub hl [0, 1, 2] rfl)
        have hf := if_f q11 hf
        rcases Classical.em (x4 = (12 : Int32)) with q12 | q12
        · have hf := if_t q12 hf
          refine lv_tableIn (off := 47) (tgt := 95) hx hb dX7_readScript_48 (by rw [q12]; decide) (by rw [q12]; decide) (by rw [q12]; rfl) (by decide) ?_
          refine lv_aload_n hx hb dX7_readScript_95 rfl (lv_at hl 2 rfl) ?_
          refine gf_X7_60 X hnI hP zk_0 dX7_readScript_96 ?_
          refine lv_aload_n hx hb dX7_readScript_99 rfl (lv_at hl 2 rfl) ?_
          refine gf_X7_53 X hnI hP zk_0 dX7_readScript_100 ?_
          refine lv_iconst (v := (1 : Int32)) hx hb dX7_readScript_103 (by decide) ?_
          refine lv_bipush (v := (99 : Int32)) hx hb dX7_readScript_104 (by decide) ?_
          obtain ⟨x10, I11, hx10_I11, hf⟩ := ob2_e hf
          refine zr_cVi (rest := [.ref (g.2.2 + 61)]) (As := [.int (1 : Int32), .int (99 : Int32)]) X hP hS (ct_X2_takeNumber (g := g) (nc := nc) (I := I5) (J := J) (O := O) hnI l  hx10_I11) cw_X7_441 (zr_recv X hP (Nat.lt_of_lt_of_le (zk_56).1 hnI) (zb_ceIo zk_56 (by decide)) rfl) rfl hl.1 (Nat.le_of_ble_eq_true rfl) ⟨Nat.le_of_ble_eq_true rfl, Nat.le_of_ble_eq_true rfl⟩ ⟨Nat.le_of_ble_eq_true rfl, Nat.le_of_ble_eq_true rfl⟩ dX7_readScript_106 rfl (fun H locs hP hS => ?_)
          obtain ⟨I12, hI12, hf⟩ := ob_e hf
          refine zr_cVv (rest := []) (As := [.int x10]) X hP hS (ct_X4_add (g := g) (nc := nc) (I := I11) (J := J) (O := O) hnI l  hI12) cw_X7_482 (zr_recv X hP (Nat.lt_of_lt_of_le (zk_61).1 hnI) (zb_ceIo zk_61 (by decide)) rfl) rfl hl.1 (Nat.le_of_ble_eq_true rfl) ⟨Nat.le_of_ble_eq_true rfl, Nat.le_of_ble_eq_true rfl⟩ ⟨Nat.le_of_ble_eq_true rfl, Nat.le_of_ble_eq_true rfl⟩ dX7_readScript_109 rfl (fun H locs hP hS => ?_)
          refine lv_aload_n hx hb dX7_readScript_112 rfl (lv_at hl 2 rfl) ?_
          obtain ⟨I13, hI13, hf⟩ := ob_e hf
          refine zr_cVv (rest := []) (As := []) X hP hS (ct_X7_readHitBuoys (g := g) (nc := nc) (I := I12) (J := J) (O := O) hnI l  hI13) cw_X7_484 (zr_recv X hP (Nat.lt_of_lt_of_le (zk_0).1 hnI) (zb_ceIo zk_0 (by decide)) rfl) rfl hl.1 (Nat.le_of_ble_eq_true rfl) ⟨Nat.le_of_ble_eq_true rfl, Nat.le_of_ble_eq_true rfl⟩ ⟨Nat.le_of_ble_eq_true rfl, Nat.le_of_ble_eq_true rfl⟩ dX7_readScript_113 rfl (fun H locs hP hS => ?_)
          refine lv_goto (tgt := 202) hx hb dX7_readScript_116 (by decide) ?_
          cases hf
          exact K1 H locs ls hP hS (lv_sub hl [0, 1, 2] rfl)
        have hf := if_f q12 hf
        rcases Classical.em (x4 = (13 : Int32)) with q13 | q13
        · have hf := if_t q13 hf
          refine lv_tableIn (off := 71) (tgt := 119) hx hb dX7_readScript_48 (by rw [q13]; decide) (by rw [q13]; decide) (by rw [q13]; rfl) (by decide) ?_
          refine lv_aload_n hx hb dX7_readScript_119 rfl (lv_at hl 2 rfl) ?_
          refine gf_X7_60 X hnI hP zk_0 dX7_readScript_120 ?_
          refine lv_aload_n hx hb dX7_readScript_123 rfl (lv_at hl 2 rfl) ?_
          refine gf_X7_53 X hnI hP zk_0 dX7_readScript_124 ?_
          refine lv_iconst (v := (0 : Int32)) hx hb dX7_readScript_127 (by decide) ?_
          refine lv_iload_n hx hb dX7_readScript_128 rfl (lv_at hl 1 rfl) ?_
          refine lv_iconst (v := (2 : Int32)) hx hb dX7_readScript_129 (by decide) ?_
          refine lv_isub hx hb dX7_readScript_130 ?_
          obtain ⟨x14, I15, hx14_I15, hf⟩ := ob2_e hf
          refine zr_cVi (rest := [.ref (g.2.2 + 61)]) (As := [.int (0 : Int32), .int (a1 - (2 : Int32))]) X hP hS (ct_X2_takeNumber (g := g) (nc := nc) (I := I5) (J := J) (O := O) hnI l  hx14_I15) cw_X7_441 (zr_recv X hP (Nat.lt_of_lt_of_le (zk_56).1 hnI) (zb_ceIo zk_56 (by decide)) rfl) rfl hl.1 (Nat.le_of_ble_eq_true rfl) ⟨Nat.le_of_ble_eq_true rfl, Nat.le_of_ble_eq_true rfl⟩ ⟨Nat.le_of_ble_eq_true rfl, Nat.le_of_ble_eq_true rfl⟩ dX7_readScript_131 rfl (fun H locs hP hS => ?_)
          obtain ⟨I16, hI16, hf⟩ := ob_e hf
          refine zr_cVv (rest := []) (As := [.int x14]) X hP hS (ct_X4_add (g := g) (nc := nc) (I := I15) (J := J) (O := O) hnI l  hI16) cw_X7_482 (zr_recv X hP (Nat.lt_of_lt_of_le (zk_61).1 hnI) (zb_ceIo zk_61 (by decide)) rfl) rfl hl.1 (Nat.le_of_ble_eq_true rfl) ⟨Nat.le_of_ble_eq_true rfl, Nat.le_of_ble_eq_true rfl⟩ ⟨Nat.le_of_ble_eq_true rfl, Nat.le_of_ble_eq_true rfl⟩ dX7_readScript_134 rfl (fun H locs hP hS => ?_)
          refine lv_goto (tgt := 202) hx hb dX7_readScript_137 (by decide) ?_
          cases hf
          exact K1 H locs ls hP hS (lv_sub hl [0, 1, 2] rfl)
        have hf := if_f q13 hf
        rcases Classical.em (x4 = (14 : Int32)) with q14 | q14
        · have hf := if_t q14 hf
          refine lv_tableIn (off := 92) (tgt := 140) hx hb dX7_readScript_48 (by rw [q14]; decide) (by rw [q14]; decide) (by rw [q14]; rfl) (by decide) ?_
          refine lv_aload_n hx hb dX7_readScript_140 rfl (lv_at hl 2 rfl) ?_
          refine gf_X7_60 X hnI hP zk_0 dX7_readScript_141 ?_
          refine lv_aload_n hx hb dX7_readScript_144 rfl (lv_at hl 2 rfl) ?_
          refine gf_X7_53 X hnI hP zk_0 dX7_readScript_145 ?_
          refine lv_iconst (v := (1 : Int32)) hx hb dX7_readScript_148 (by decide) ?_
          refine lv_bipush (v := (99 : Int32)) hx hb dX7_readScript_149 (by decide) ?_
          obtain ⟨x17, I18, hx17_I18, hf⟩ := ob2_e hf
          refine zr_cVi (rest := [.ref (g.2.2 + 61)]) (As := [.int (1 : Int32), .int (99 : Int32)]) X hP hS (ct_X2_takeNumber (g := g) (nc := nc) (I := I5) (J := J) (O := O) hnI l  hx17_I18) cw_X7_441 (zr_recv X hP (Nat.lt_of_lt_of_le (zk_56).1 hnI) (zb_ceIo zk_56 (by decide)) rfl) rfl hl.1 (Nat.le_of_ble_eq_true rfl) ⟨Nat.le_of_ble_eq_true rfl, Nat.le_of_ble_eq_true rfl⟩ ⟨Nat.le_of_ble_eq_true rfl, Nat.le_of_ble_eq_true rfl⟩ dX7_readScript_151 rfl (fun H locs hP hS => ?_)
          obtain ⟨I19, hI19, hf⟩ := ob_e hf
          refine zr_cVv (rest := []) (As := [.int x17]) X hP hS (ct_X4_add (g := g) (nc := nc) (I := I18) (J := J) (O := O) hnI l  hI19) cw_X7_482 (zr_recv X hP (Nat.lt_of_lt_of_le (zk_61).1 hnI) (zb_ceIo zk_61 (by decide)) rfl) rfl hl.1 (Nat.le_of_ble_eq_true rfl) ⟨Nat.le_of_ble_eq_true rfl, Nat.le_of_ble_eq_true rfl⟩ ⟨Nat.le_of_ble_eq_true rfl, Nat.le_of_ble_eq_true rfl⟩ dX7_readScript_154 rfl (fun H locs hP hS => ?_)
          refine lv_goto (tgt := 202) hx hb dX7_readScript_157 (by decide) ?_
          cases hf
          exact K1 H locs ls hP hS (lv_sub hl [0, 1, 2] rfl)
        have hf := if_f q14 hf
        rcases Classical.em (x4 = (15 : Int32)) with q15 | q15
        · have hf := if_t q15 hf
          refine lv_tableIn (off := 112) (tgt := 160) hx hb dX7_readScript_48 (by rw [q15]; decide) (by rw [q15]; decide) (by rw [q15]; rfl) (by decide) ?_
          refine lv_aload_n hx hb dX7_readScript_160 rfl (lv_at hl 2 rfl) ?_
          refine gf_X7_60 X hnI hP zk_0 dX7_readScript_161 ?_
          refine lv_aload_n hx hb dX7_readScript_164 rfl (lv_at hl 2 rfl) ?_
          refine gf_X7_53 X hnI hP zk_0 dX7_readScript_165 ?_
          refine lv_iconst (v := (0 : Int32)) hx hb dX7_readScript_168 (by decide) ?_
          refine lv_iload_n hx hb dX7_readScript_169 rfl (lv_at hl 1 rfl) ?_
          refine lv_iconst (v := (1 : Int32)) hx hb dX7_readScript_170 (by decide) ?_
          refine lv_isub hx hb dX7_readScript_171 ?_
          obtain ⟨x20, I21, hx20_I21, hf⟩ := ob2_e hf
          refine zr_cVi (rest := [.ref (g.2.2 + 61)]) (As := [.int (0 : Int32), .int (a1 - (1 : Int32))]) X hP hS (ct_X2_takeNumber (g := g) (nc := nc) (I := I5) (J := J) (O := O) hnI l  hx20_I21) cw_X7_441 (zr_recv X hP (Nat.lt_of_lt_of_le (zk_56).1 hnI) (zb_ceIo zk_56 (by decide)) rfl) rfl hl.1 (Nat.le_of_ble_eq_true rfl) ⟨Nat.le_of_ble_eq_true rfl, Nat.le_of_ble_eq_true rfl⟩ ⟨Nat.le_of_ble_eq_true rfl, Nat.le_of_ble_eq_true rfl⟩ dX7_readScript_172 rfl (fun H locs hP hS => ?_)
          obtain ⟨I22, hI22, hf⟩ := ob_e hf
          refine zr_cVv (rest := []) (As := [.int x20]) X hP hS (ct_X4_add (g := g) (nc := nc) (I := I21) (J := J) (O := O) hnI l  hI22) cw_X7_482 (zr_recv X hP (Nat.lt_of_lt_of_le (zk_61).1 hnI) (zb_ceIo zk_61 (by decide)) rfl) rfl hl.1 (Nat.le_of_ble_eq_true rfl) ⟨Nat.le_of_ble_eq_true rfl, Nat.le_of_ble_eq_true rfl⟩ ⟨Nat.le_of_ble_eq_true rfl, Nat.le_of_ble_eq_true rfl⟩ dX7_readScript_175 rfl (fun H locs hP hS => ?_)
          refine lv_goto (tgt := 202) hx hb dX7_readScript_178 (by decide) ?_
          cases hf
          exact K1 H locs ls hP hS (lv_sub hl [0, 1, 2] rfl)
        have hf := if_f q15 hf
        refine lv_tableOut (tgt := 202) hx hb dX7_readScript_48 (by have z10 := zr_ne (k := 10) (by decide) q10; have z11 := zr_ne (k := 11) (by decide) q11; have z12 := zr_ne (k := 12) (by decide) q12; have z13 := zr_ne (k := 13) (by decide) q13; have z14 := zr_ne (k := 14) (by decide) q14; have z15 := zr_ne (k := 15) (by decide) q15; omega) (by decide) ?_
        cases hf
        exact K1 H locs ls hP hS (lv_sub hl [0, 1, 2] rfl)
set_option maxHeartbeats 4000000 in
set_option maxRecDepth 100000 in
theorem ct_X7_readScript {g : zb_G} {nc : Nat} (hnI : 306 ≤ nc) (l : Launch) {I J O : Mem} {Iq : Mem} (hf : fX7_readScript I = some Iq) : zb_Ct l g nc yX7_readScript cX7_readScript 3 none 8 195 [.ref (g.2.2 + 0)] (zb_ce g I J O) none (zb_ce g Iq J O) := by
  refine zb_ofW (own := RX7) (by decide +kernel) rfl (Nat.le_of_ble_eq_true rfl) ?_
  intro p e s m args below meth c ls X hr hP hl
  have hx := X.1.1
  have hb := X.1.2.1
  have ho := X.1.2.2.2.1
  have hts := X.1.2.2.2.2
  have hZ := X.2.2.2
  have hl : lv_has ls 3 [(0, .ref (g.2.2 + 0))] := hl
  have hS : va_S (zb_A g) s.heap s.heap [] := va_S.rf
  obtain ⟨H, hH⟩ : ∃ H, H = s.heap := ⟨_, rfl⟩
  obtain ⟨locs, hlocs⟩ : ∃ z : List Loc, z = [] := ⟨_, rfl⟩
  rw [← hH] at hP
  have hS : va_S (zb_A g) s.heap H locs := by rw [hH, hlocs]; exact hS
  show W p l e _ s m args below meth c s.heap [] 0 0 _ _
  rw [← hH, ← hlocs]
  rw [fX7_readScript] at hf
  refine lv_aload_n hx hb dX7_readScript_0 rfl (lv_at hl 0 rfl) ?_
  refine gf_X7_60 X hnI hP zk_0 dX7_readScript_1 ?_
  obtain ⟨I1, hI1, hf⟩ := ob_e hf
  refine zr_cVv (rest := []) (As := []) X hP hS (ct_X4_clear (g := g) (nc := nc) (I := I) (J := J) (O := O) hnI l  hI1) cw_X7_475 (zr_recv X hP (Nat.lt_of_lt_of_le (zk_61).1 hnI) (zb_ceIo zk_61 (by decide)) rfl) rfl hl.1 (Nat.le_of_ble_eq_true rfl) ⟨Nat.le_of_ble_eq_true rfl, Nat.le_of_ble_eq_true rfl⟩ ⟨Nat.le_of_ble_eq_true rfl, Nat.le_of_ble_eq_true rfl⟩ dX7_readScript_4 rfl (fun H locs hP hS => ?_)
  refine lv_aload_n hx hb dX7_readScript_7 rfl (lv_at hl 0 rfl) ?_
  refine gf_X7_53 X hnI hP zk_0 dX7_readScript_8 ?_
  obtain ⟨I2, hI2, hf⟩ := ob_e hf
  refine zr_cVv (rest := []) (As := []) X hP hS (ct_X2_scan (g := g) (nc := nc) (I := I1) (J := J) (O := O) hnI l  hI2) cw_X7_435 (zr_recv X hP (Nat.lt_of_lt_of_le (zk_56).1 hnI) (zb_ceIo zk_56 (by decide)) rfl) rfl hl.1 (Nat.le_of_ble_eq_true rfl) ⟨Nat.le_of_ble_eq_true rfl, Nat.le_of_ble_eq_true rfl⟩ ⟨Nat.le_of_ble_eq_true rfl, Nat.le_of_ble_eq_true rfl⟩ dX7_readScript_11 rfl (fun H locs hP hS => ?_)
  refine lv_aload_n hx hb dX7_readScript_14 rfl (lv_at hl 0 rfl) ?_
  refine gf_X7_10 X hnI hP zk_0 dX7_readScript_15 ?_
  refine gf_X7_88 X hnI hP zk_1 dX7_readScript_18 ?_
  refine gf_X7_133 X hnI hP zk_2 dX7_readScript_21 ?_
  refine lv_istore_n (lv' := [(1, .int (I2 2 0)), (0, .ref (g.2.2 + 0))]) hx hb dX7_readScript_24 rfl hl (by decide) rfl (fun ls hl => ?_)
  refine lv_iconst (v := (0 : Int32)) hx hb dX7_readScript_25 (by decide) ?_
  refine lv_istore_n (lv' := [(2, .int (0 : Int32)), (1, .int (I2 2 0)), (0, .ref (g.2.2 + 0))]) hx hb dX7_readScript_26 rfl hl (by decide) rfl (fun ls hl => ?_)
  obtain ⟨I25, hI25, hf⟩ := ob_e hf
  have K2 : ∀ (H : Heap) (locs : List Loc) (ls : Array Slot), va_P g.1 vwCl (zb_ws g nc (zb_ce g I25 J O)) H → va_S (zb_A g) s.heap H locs → lv_has ls 3 [] → W p l e { frames := 8, cells := 0, slots := 0, locals := 195 } s m args below meth c H locs 0 0 (MQ below (zb_Po g nc (zb_ce g Iq J O) none) args s 0 0 (zb_A g)) (F0 m 216 ls []) := by
    intro H locs ls hP hS hl
    cases hf
    exact zr_vret X hr hP hS rfl dX7_readScript_216
  exact lpX7_readScript_L27 hnI l  X hI25 K2 hP hS (lv_sub hl [0, 1, 2] rfl)
set_option maxHeartbeats 4000000 in
set_option maxRecDepth 100000 in
theorem ct_X7_checkBuoy {g : zb_G} {nc : Nat} (hnI : 306 ≤ nc) (l : Launch) {a1 : Int32} {I J O : Mem} (hf : fX7_checkBuoy a1 I = some 0) : zb_Ct l g nc yX7_checkBuoy cX7_checkBuoy 2 none 6 125 [.ref (g.2.2 + 0), .int a1] (zb_ce g I J O) none (zb_ce g I J O) := by
  refine zb_ofW (own := RX7) (by decide +kernel) rfl (Nat.le_of_ble_eq_true rfl) ?_
  intro p e s m args below meth c ls X hr hP hl
  have hx := X.1.1
  have hb := X.1.2.1
  have ho := X.1.2.2.2.1
  have hts := X.1.2.2.2.2
  have hZ := X.2.2.2
  have hl : lv_has ls 2 [(0, .ref (g.2.2 + 0)), (1, .int a1)] := hl
  have hS : va_S (zb_A g) s.heap s.heap [] := va_S.rf
  obtain ⟨H, hH⟩ : ∃ H, H = s.heap := ⟨_, rfl⟩
  obtain ⟨locs, hlocs⟩ : ∃ z : List Loc, z = [] := ⟨_, rfl⟩
  rw [← hH] at hP
  have hS : va_S (zb_A g) s.heap H locs := by rw [hH, hlocs]; exact hS
  show W p l e _ s m args below meth c s.heap [] 0 0 _ _
  rw [← hH, ← hlocs]
  rw [fX7_checkBuoy] at hf
  refine lv_iload_n hx hb dX7_checkBuoy_0 rfl (lv_at hl 1 rfl) ?_
  refine lv_if_lt (tgt := 18) hx hb dX7_checkBuoy_1 (by decide) (fun hc => ?_) (fun hc => ?_)
  · have hf := if_t hc hf
    exact (thr_ne1 (by decide) hf).elim
  · have hf := if_f hc hf
    refine lv_iload_n hx hb dX7_checkBuoy_4 rfl (lv_at hl 1 rfl) ?_
    refine lv_aload_n hx hb dX7_checkBuoy_5 rfl (lv_at hl 0 rfl) ?_
    refine gf_X7_10 X hnI hP zk_0 dX7_checkBuoy_6 ?_
    refine gf_X7_88 X hnI hP zk_1 dX7_checkBuoy_9 ?_
    refine gf_X7_133 X hnI hP zk_2 dX7_checkBuoy_12 ?_
    refine lv_icmp_lt (tgt := 29) hx hb dX7_checkBuoy_15 (by decide) (fun hc => ?_) (fun hc => ?_)
    · have hf := if_t hc hf
      exact zr_vret X hr hP hS rfl dX7_checkBuoy_29
    · have hf := if_f hc hf
      exact (thr_ne1 (by decide) hf).elim
set_option maxHeartbeats 4000000 in
set_option maxRecDepth 100000 in
theorem ct_X7_beginAct {g : zb_G} {nc : Nat} (hnI : 306 ≤ nc) (l : Launch) {I J O : Mem} {Iq : Mem} (hf : fX7_beginAct I = some Iq) : zb_Ct l g nc yX7_beginAct cX7_beginAct 1 none 3 82 [.ref (g.2.2 + 0)] (zb_ce g I J O) none (zb_ce g Iq J O) := by
  refine zb_ofW (own := RX7) (by decide +kernel) rfl (Nat.le_of_ble_eq_true rfl) ?_
  intro p e s m args below meth c ls X hr hP hl
  have hx := X.1.1
  have hb := X.1.2.1
  have ho := X.1.2.2.2.1
  have hts := X.1.2.2.2.2
  have hZ := X.2.2.2
  have hl : lv_has ls 1 [(0, .ref (g.2.2 + 0))] := hl
  have hS : va_S (zb_A g) s.heap s.heap [] := va_S.rf
  obtain ⟨H, hH⟩ : ∃ H, H = s.heap := ⟨_, rfl⟩
  obtain ⟨locs, hlocs⟩ : ∃ z : List Loc, z = [] := ⟨_, rfl⟩
  rw [← hH] at hP
  have hS : va_S (zb_A g) s.heap H locs := by rw [hH, hlocs]; exact hS
  show W p l e _ s m args below meth c s.heap [] 0 0 _ _
  rw [← hH, ← hlocs]
  rw [fX7_beginAct] at hf
  refine lv_aload_n hx hb dX7_beginAct_0 rfl (lv_at hl 0 rfl) ?_
  refine gf_X7_19 X hnI hP zk_0 dX7_beginAct_1 ?_
  refine lv_aload_n hx hb dX7_beginAct_4 rfl (lv_at hl 0 rfl) ?_
  refine gf_X7_27 X hnI hP zk_0 dX7_beginAct_5 ?_
  obtain ⟨j1, hj1, hf⟩ := ob_e hf
  refine zr_rld X hP hnI zk_49 hj1 dX7_beginAct_8 ?_
  refine lv_aload_n hx hb dX7_beginAct_9 rfl (lv_at hl 0 rfl) ?_
  refine gf_X7_10 X hnI hP zk_0 dX7_beginAct_10 ?_
  obtain ⟨I2, hI2, hf⟩ := ob_e hf
  refine zr_cVv (rest := []) (As := [.ref (g.2.2 + 1)]) X hP hS (ct_X5_copyFrom (g := g) (nc := nc) (I := I) (J := J) (O := O) hnI l (zb_isBp (rld_e hj1).2.2) zb_isB1 hI2) cw_X7_129 (zr_recv X hP (Nat.lt_of_lt_of_le ((zb_b0 (zb_isBp (rld_e hj1).2.2))).1 hnI) (zb_ceIo (zb_b0 (zb_isBp (rld_e hj1).2.2)) (by decide)) rfl) rfl hl.1 (Nat.le_of_ble_eq_true rfl) ⟨Nat.le_of_ble_eq_true rfl, Nat.le_of_ble_eq_true rfl⟩ ⟨Nat.le_of_ble_eq_true rfl, Nat.le_of_ble_eq_true rfl⟩ dX7_beginAct_13 rfl (fun H locs hP hS => ?_)
  refine lv_aload_n hx hb dX7_beginAct_16 rfl (lv_at hl 0 rfl) ?_
  refine lv_aload_n hx hb dX7_beginAct_17 rfl (lv_at hl 0 rfl) ?_
  refine gf_X7_27 X hnI hP zk_0 dX7_beginAct_18 ?_
  refine lv_iconst (v := (1 : Int32)) hx hb dX7_beginAct_21 (by decide) ?_
  refine lv_iadd hx hb dX7_beginAct_22 ?_
  refine lv_bipush (v := (8 : Int32)) hx hb dX7_beginAct_23 (by decide) ?_
  obtain ⟨x3, hx3, hf⟩ := ob_e hf
  refine zr_irem X hx3 dX7_beginAct_25 ?_
  refine pf_X7_27 X hnI hP hS zk_0 dX7_beginAct_26 (fun H locs hP hS => ?_)
  refine lv_aload_n hx hb dX7_beginAct_29 rfl (lv_at hl 0 rfl) ?_
  refine lv_aload_n hx hb dX7_beginAct_30 rfl (lv_at hl 0 rfl) ?_
  refine gf_X7_23 X hnI hP zk_0 dX7_beginAct_31 ?_
  refine lv_iconst (v := (1 : Int32)) hx hb dX7_beginAct_34 (by decide) ?_
  refine lv_iadd hx hb dX7_beginAct_35 ?_
  refine lv_bipush (v := (8 : Int32)) hx hb dX7_beginAct_36 (by decide) ?_
  refine zr_min X wk_X7_425 wm_min1 wm_min2 wm_min3 hl.1 (Nat.le_of_ble_eq_true rfl) (Nat.le_of_ble_eq_true rfl) ⟨Nat.le_of_ble_eq_true rfl, Nat.le_of_ble_eq_true rfl⟩ dX7_beginAct_38 ?_
  refine pf_X7_23 X hnI hP hS zk_0 dX7_beginAct_41 (fun H locs hP hS => ?_)
  refine lv_aload_n hx hb dX7_beginAct_44 rfl (lv_at hl 0 rfl) ?_
  refine gf_X7_36 X hnI hP zk_0 dX7_beginAct_45 ?_
  refine lv_iconst (v := (0 : Int32)) hx hb dX7_beginAct_48 (by decide) ?_
  refine lv_dup2_11 hx hb dX7_beginAct_49 rfl rfl ?_
  obtain ⟨x4, hx4, hf⟩ := ob_e hf
  refine zr_aldI X hP hnI zk_51 hx4 dX7_beginAct_50 ?_
  refine lv_iconst (v := (1 : Int32)) hx hb dX7_beginAct_51 (by decide) ?_
  refine lv_iadd hx hb dX7_beginAct_52 ?_
  obtain ⟨I5, hI5, hf⟩ := ob_e hf
  refine zr_astI X hP hS hnI zk_51 hI5 dX7_beginAct_53 (fun H locs hP hS => ?_)
  cases hf
  exact zr_vret X hr hP hS rfl dX7_beginAct_54
set_option maxHeartbeats 4000000 in
set_option maxRecDepth 100000 in
theorem ct_X7_report {g : zb_G} {nc : Nat} (hnI : 306 ≤ nc) (l : Launch) {a1 : Int32} {a2 : Int32} {I J O : Mem} {r9 : Int32} {Iq : Mem} (hf : fX7_report a1 a2 I = some (0, r9, Iq)) : zb_Ct l g nc yX7_report cX7_report 3 (some .int) 7 146 [.ref (g.2.2 + 0), .int a1, .int a2] (zb_ce g I J O) (some (.int r9)) (zb_ce g Iq J O) := by
  refine zb_ofW (own := RX7) (by decide +kernel) rfl (Nat.le_of_ble_eq_true rfl) ?_
  intro p e s m args below meth c ls X hr hP hl
  have hx := X.1.1
  have hb := X.1.2.1
  have ho := X.1.2.2.2.1
  have hts := X.1.2.2.2.2
  have hZ := X.2.2.2
  have hl : lv_has ls 3 [(0, .ref (g.2.2 + 0)), (1, .int a1), (2, .int a2)] := hl
  have hS : va_S (zb_A g) s.heap s.heap [] := va_S.rf
  obtain ⟨H, hH⟩ : ∃ H, H = s.heap := ⟨_, rfl⟩
  obtain ⟨locs, hlocs⟩ : ∃ z : List Loc, z = [] := ⟨_, rfl⟩
  rw [← hH] at hP
  have hS : va_S (zb_A g) s.heap H locs := by rw [hH, hlocs]; exact hS
  show W p l e _ s m args below meth c s.heap [] 0 0 _ _
  rw [← hH, ← hlocs]
  rw [fX7_report] at hf
  refine lv_aload_n hx hb dX7_report_0 rfl (lv_at hl 0 rfl) ?_
  refine lv_iload_n hx hb dX7_report_1 rfl (lv_at hl 1 rfl) ?_
  obtain ⟨e1, he1, hf⟩ := ob_e hf
  rcases Classical.em (e1 = 0) with he | he
  · have hf := if_t he hf
    rw [he] at he1
    refine zr_cVv (rest := []) (As := [.int a1]) X hP hS (ct_X7_checkBuoy (g := g) (nc := nc) (I := I) (J := J) (O := O) hnI l  he1) cw_X7_185 (zr_recv X hP (Nat.lt_of_lt_of_le (zk_0).1 hnI) (zb_ceIo zk_0 (by decide)) rfl) rfl hl.1 (Nat.le_of_ble_eq_true rfl) ⟨Nat.le_of_ble_eq_true rfl, Nat.le_of_ble_eq_true rfl⟩ ⟨Nat.le_of_ble_eq_true rfl, Nat.le_of_ble_eq_true rfl⟩ dX7_report_2 rfl (fun H locs hP hS => ?_)
    refine lv_iload_n hx hb dX7_report_5 rfl (lv_at hl 2 rfl) ?_
    refine lv_sipush (v := (-9999 : Int32)) hx hb dX7_report_6 (by decide) ?_
    refine lv_icmp_lt (tgt := 19) hx hb dX7_report_9 (by decide) (fun hc => ?_) (fun hc => ?_)
    · have hf := if_t hc hf
      exact (thr_ne (by decide) hf).elim
    · have hf := if_f hc hf
      refine lv_iload_n hx hb dX7_report_12 rfl (lv_at hl 2 rfl) ?_
      refine lv_sipush (v := (9999 : Int32)) hx hb dX7_report_13 (by decide) ?_
      refine lv_icmp_le (tgt := 30) hx hb dX7_report_16 (by decide) (fun hc => ?_) (fun hc => ?_)
      · have hf := if_t hc hf
        refine lv_aload_n hx hb dX7_report_30 rfl (lv_at hl 0 rfl) ?_
        obtain ⟨I2, hI2, hf⟩ := ob_e hf
        refine zr_cVv (rest := []) (As := []) X hP hS (ct_X7_beginAct (g := g) (nc := nc) (I := I) (J := J) (O := O) hnI l  hI2) cw_X7_337 (zr_recv X hP (Nat.lt_of_lt_of_le (zk_0).1 hnI) (zb_ceIo zk_0 (by decide)) rfl) rfl hl.1 (Nat.le_of_ble_eq_true rfl) ⟨Nat.le_of_ble_eq_true rfl, Nat.le_of_ble_eq_true rfl⟩ ⟨Nat.le_of_ble_eq_true rfl, Nat.le_of_ble_eq_true rfl⟩ dX7_report_31 rfl (fun H locs hP hS => ?_)
        refine lv_aload_n hx hb dX7_report_34 rfl (lv_at hl 0 rfl) ?_
        refine gf_X7_10 X hnI hP zk_0 dX7_report_35 ?_
        refine gf_X7_88 X hnI hP zk_1 dX7_report_38 ?_
        refine lv_dup hx hb dX7_report_41 rfl ?_
        refine gf_X7_212 X hnI hP zk_2 dX7_report_42 ?_
        refine lv_iconst (v := (1 : Int32)) hx hb dX7_report_45 (by decide) ?_
        refine lv_iload_n hx hb dX7_report_46 rfl (lv_at hl 1 rfl) ?_
        refine lv_ishl hx hb dX7_report_47 ?_
        refine lv_ior hx hb dX7_report_48 ?_
        refine pf_X7_212 X hnI hP hS zk_2 dX7_report_49 (fun H locs hP hS => ?_)
        refine lv_aload_n hx hb dX7_report_52 rfl (lv_at hl 0 rfl) ?_
        refine gf_X7_10 X hnI hP zk_0 dX7_report_53 ?_
        refine gf_X7_88 X hnI hP zk_1 dX7_report_56 ?_
        refine gf_X7_219 X hnI hP zk_2 dX7_report_59 ?_
        refine lv_iload_n hx hb dX7_report_62 rfl (lv_at hl 1 rfl) ?_
        refine lv_iload_n hx hb dX7_report_63 rfl (lv_at hl 2 rfl) ?_
        obtain ⟨I3, hI3, hf⟩ := ob_e hf
        refine zr_astI X hP hS hnI zk_11 hI3 dX7_report_64 (fun H locs hP hS => ?_)
        refine lv_aload_n hx hb dX7_report_65 rfl (lv_at hl 0 rfl) ?_
        refine gf_X7_10 X hnI hP zk_0 dX7_report_66 ?_
        refine gf_X7_88 X hnI hP zk_1 dX7_report_69 ?_
        refine gf_X7_212 X hnI hP zk_2 dX7_report_72 ?_
        obtain ⟨x4, hx4, hf⟩ := ob_e hf
        refine zr_cSi (rest := []) (As := [.int (I3 2 1)]) X hP hS (ct_J6_bitCount_0f7a4 (g := g) (nc := nc) (I := I3) (J := J) (O := O)  l  hx4) cw_X7_154  rfl hl.1 (Nat.le_of_ble_eq_true rfl) ⟨Nat.le_of_ble_eq_true rfl, Nat.le_of_ble_eq_true rfl⟩ ⟨Nat.le_of_ble_eq_true rfl, Nat.le_of_ble_eq_true rfl⟩ dX7_report_75 rfl (fun H locs hP hS => ?_)
        cases hf
        exact zr_iret X hr hP hS dX7_report_78
      · have hf := if_f hc hf
        exact (thr_ne (by decide) hf).elim
  · have hf := if_f he hf
    exact (thr_ne he hf).elim
set_option maxHeartbeats 4000000 in
set_option maxRecDepth 100000 in
theorem ct_X7_endHour {g : zb_G} {nc : Nat} (hnI : 306 ≤ nc) (l : Launch) {I J O : Mem} {r9 : Int32} {Iq : Mem} (hf : fX7_endHour I = some (r9, Iq)) : zb_Ct l g nc yX7_endHour cX7_endHour 3 (some .int) 5 121 [.ref (g.2.2 + 0)] (zb_ce g I J O) (some (.int r9)) (zb_ce g Iq J O) := by
  refine zb_ofW (own := RX7) (by decide +kernel) rfl (Nat.le_of_ble_eq_true rfl) ?_
  intro p e s m args below meth c ls X hr hP hl
  have hx := X.1.1
  have hb := X.1.2.1
  have ho := X.1.2.2.2.1
  have hts := X.1.2.2.2.2
  have hZ := X.2.2.2
  have hl : lv_has ls 3 [(0, .ref (g.2.2 + 0))] := hl
  have hS : va_S (zb_A g) s.heap s.heap [] := va_S.rf
  obtain ⟨H, hH⟩ : ∃ H, H = s.heap := ⟨_, rfl⟩
  obtain ⟨locs, hlocs⟩ : ∃ z : List Loc, z = [] := ⟨_, rfl⟩
  rw [← hH] at hP
  have hS : va_S (zb_A g) s.heap H locs := by rw [hH, hlocs]; exact hS
  show W p l e _ s m args below meth c s.heap [] 0 0 _ _
  rw [← hH, ← hlocs]
  rw [fX7_endHour] at hf
  refine lv_aload_n hx hb dX7_endHour_0 rfl (lv_at hl 0 rfl) ?_
  obtain ⟨I1, hI1, hf⟩ := ob_e hf
  refine zr_cVv (rest := []) (As := []) X hP hS (ct_X7_beginAct (g := g) (nc := nc) (I := I) (J := J) (O := O) hnI l  hI1) cw_X7_337 (zr_recv X hP (Nat.lt_of_lt_of_le (zk_0).1 hnI) (zb_ceIo zk_0 (by decide)) rfl) rfl hl.1 (Nat.le_of_ble_eq_true rfl) ⟨Nat.le_of_ble_eq_true rfl, Nat.le_of_ble_eq_true rfl⟩ ⟨Nat.le_of_ble_eq_true rfl, Nat.le_of_ble_eq_true rfl⟩ dX7_endHour_1 rfl (fun H locs hP hS => ?_)
  refine lv_aload_n hx hb dX7_endHour_4 rfl (lv_at hl 0 rfl) ?_
  refine gf_X7_10 X hnI hP zk_0 dX7_endHour_5 ?_
  obtain ⟨x2, I3, hx2_I3, hf⟩ := ob2_e hf
  refine zr_cVi (rest := []) (As := []) X hP hS (ct_X5_openRow (g := g) (nc := nc) (I := I1) (J := J) (O := O) hnI l zb_isB1 hx2_I3) cw_X7_340 (zr_recv X hP (Nat.lt_of_lt_of_le (zk_1).1 hnI) (zb_ceIo zk_1 (by decide)) rfl) rfl hl.1 (Nat.le_of_ble_eq_true rfl) ⟨Nat.le_of_ble_eq_true rfl, Nat.le_of_ble_eq_true rfl⟩ ⟨Nat.le_of_ble_eq_true rfl, Nat.le_of_ble_eq_true rfl⟩ dX7_endHour_8 rfl (fun H locs hP hS => ?_)
  refine lv_istore_n (lv' := [(1, .int x2), (0, .ref (g.2.2 + 0))]) hx hb dX7_endHour_11 rfl hl (by decide) rfl (fun ls hl => ?_)
  refine lv_aload_n hx hb dX7_endHour_12 rfl (lv_at hl 1 rfl) ?_
  refine gf_X7_10 X hnI hP zk_0 dX7_endHour_13 ?_
  refine lv_iload_n hx hb dX7_endHour_16 rfl (lv_at hl 0 rfl) ?_
  refine lv_aload_n hx hb dX7_endHour_17 rfl (lv_at hl 1 rfl) ?_
  refine gf_X7_43 X hnI hP zk_0 dX7_endHour_18 ?_
  obtain ⟨I4, hI4, hf⟩ := ob_e hf
  refine zr_cVv (rest := []) (As := [.int x2, .ref (g.2.2 + 52)]) X hP hS (ct_X5_tellLevel (g := g) (nc := nc) (I := I3) (J := J) (O := O) hnI l zb_isB1 hI4) cw_X7_343 (zr_recv X hP (Nat.lt_of_lt_of_le (zk_1).1 hnI) (zb_ceIo zk_1 (by decide)) rfl) rfl hl.1 (Nat.le_of_ble_eq_true rfl) ⟨Nat.le_of_ble_eq_true rfl, Nat.le_of_ble_eq_true rfl⟩ ⟨Nat.le_of_ble_eq_true rfl, Nat.le_of_ble_eq_true rfl⟩ dX7_endHour_21 rfl (fun H locs hP hS => ?_)
  refine lv_iconst (v := (0 : Int32)) hx hb dX7_endHour_24 (by decide) ?_
  refine lv_istore_n (lv' := [(2, .int (0 : Int32)), (1, .int x2), (0, .ref (g.2.2 + 0))]) hx hb dX7_endHour_25 rfl hl (by decide) rfl (fun ls hl => ?_)
  refine lv_aload_n hx hb dX7_endHour_26 rfl (lv_at hl 2 rfl) ?_
  refine gf_X7_10 X hnI hP zk_0 dX7_endHour_27 ?_
  refine gf_X7_237 X hnI hP zk_1 dX7_endHour_30 ?_
  refine gf_X7_249 X hnI hP zk_15 dX7_endHour_33 ?_
  refine lv_iload_n hx hb dX7_endHour_36 rfl (lv_at hl 1 rfl) ?_
  obtain ⟨x5, hx5, hf⟩ := ob_e hf
  refine zr_aldI X hP hnI zk_18 hx5 dX7_endHour_37 ?_
  refine lv_iconst (v := (1 : Int32)) hx hb dX7_endHour_38 (by decide) ?_
  obtain ⟨x11, I12, ht, hf⟩ := ob2_e hf
  have K1 : ∀ (H : Heap) (locs : List Loc) (ls : Array Slot), va_P g.1 vwCl (zb_ws g nc (zb_ce g I12 J O)) H → va_S (zb_A g) s.heap H locs → lv_has ls 3 [(2, .int x11), (0, .ref (g.2.2 + 0))] → W p l e { frames := 5, cells := 0, slots := 0, locals := 121 } s m args below meth c H locs 0 0 (MQ below (zb_Po g nc (zb_ce g Iq J O) (some (.int r9))) args s 0 0 (zb_A g)) (F0 m 74 ls []) := by
    intro H locs ls hP hS hl
    refine lv_aload_n hx hb dX7_endHour_74 rfl (lv_at hl 1 rfl) ?_
    refine gf_X7_10 X hnI hP zk_0 dX7_endHour_75 ?_
    refine lv_dup hx hb dX7_endHour_78 rfl ?_
    refine gf_X7_144 X hnI hP zk_1 dX7_endHour_79 ?_
    refine lv_iconst (v := (1 : Int32)) hx hb dX7_endHour_82 (by decide) ?_
    refine lv_iadd hx hb dX7_endHour_83 ?_
    refine pf_X7_144 X hnI hP hS zk_1 dX7_endHour_84 (fun H locs hP hS => ?_)
    refine lv_aload_n hx hb dX7_endHour_87 rfl (lv_at hl 1 rfl) ?_
    refine gf_X7_10 X hnI hP zk_0 dX7_endHour_88 ?_
    refine lv_iload_n hx hb dX7_endHour_91 rfl (lv_at hl 0 rfl) ?_
    refine lv_aload_n hx hb dX7_endHour_92 rfl (lv_at hl 1 rfl) ?_
    refine gf_X7_43 X hnI hP zk_0 dX7_endHour_93 ?_
    obtain ⟨I13, hI13, hf⟩ := ob_e hf
    refine zr_cVv (rest := []) (As := [.int x11, .ref (g.2.2 + 52)]) X hP hS (ct_X5_takeOut (g := g) (nc := nc) (I := (wr I12 1 7 ((I12 1 7) + (1 : Int32)))) (J := J) (O := O) hnI l zb_isB1 hI13) cw_X7_359 (zr_recv X hP (Nat.lt_of_lt_of_le (zk_1).1 hnI) (zb_ceIo zk_1 (by decide)) rfl) rfl hl.1 (Nat.le_of_ble_eq_true rfl) ⟨Nat.le_of_ble_eq_true rfl, Nat.le_of_ble_eq_true rfl⟩ ⟨Nat.le_of_ble_eq_true rfl, Nat.le_of_ble_eq_true rfl⟩ dX7_endHour_96 rfl (fun H locs hP hS => ?_)
    refine lv_aload_n hx hb dX7_endHour_99 rfl (lv_at hl 1 rfl) ?_
    refine gf_X7_10 X hnI hP zk_0 dX7_endHour_100 ?_
    refine gf_X7_88 X hnI hP zk_1 dX7_endHour_103 ?_
    obtain ⟨I14, hI14, hf⟩ := ob_e hf
    refine zr_cVv (rest := []) (As := []) X hP hS (ct_X0_forgetReports (g := g) (nc := nc) (I := I13) (J := J) (O := O) hnI l zb_isB1 hI14) cw_X7_362 (zr_recv X hP (Nat.lt_of_lt_of_le (zk_2).1 hnI) (zb_ceIo zk_2 (by decide)) rfl) rfl hl.1 (Nat.le_of_ble_eq_true rfl) ⟨Nat.le_of_ble_eq_true rfl, Nat.le_of_ble_eq_true rfl⟩ ⟨Nat.le_of_ble_eq_true rfl, Nat.le_of_ble_eq_true rfl⟩ dX7_endHour_106 rfl (fun H locs hP hS => ?_)
    refine lv_iload_n hx hb dX7_endHour_109 rfl (lv_at hl 0 rfl) ?_
    obtain ⟨x15, hx15, hf⟩ := ob_e hf
    refine zr_cSi (rest := []) (As := [.int x11]) X hP hS (ct_J6_bitCount_0f7a4 (g := g) (nc := nc) (I := I14) (J := J) (O := O)  l  hx15) cw_X7_154  rfl hl.1 (Nat.le_of_ble_eq_true rfl) ⟨Nat.le_of_ble_eq_true rfl, Nat.le_of_ble_eq_true rfl⟩ ⟨Nat.le_of_ble_eq_true rfl, Nat.le_of_ble_eq_true rfl⟩ dX7_endHour_110 rfl (fun H locs hP hS => ?_)
    cases hf
    exact zr_iret X hr hP hS dX7_endHour_113
  have hf := ht
  refine lv_icmp_ne (tgt := 74) hx hb dX7_endHour_39 (by decide) (fun hc => ?_) (fun hc => ?_)
  · have hf := if_f hc hf
    cases hf
    exact K1 H locs ls hP hS (lv_sub hl [0, 2] rfl)
  · have hf := if_t hc hf
    refine lv_aload_n hx hb dX7_endHour_42 rfl (lv_at hl 2 rfl) ?_
    refine gf_X7_10 X hnI hP zk_0 dX7_endHour_43 ?_
    refine lv_iload_n hx hb dX7_endHour_46 rfl (lv_at hl 1 rfl) ?_
    obtain ⟨I6, hI6, hf⟩ := ob_e hf
    refine zr_cVv (rest := []) (As := [.int x2]) X hP hS (ct_X5_countStrikes (g := g) (nc := nc) (I := I4) (J := J) (O := O) hnI l zb_isB1 hI6) cw_X7_347 (zr_recv X hP (Nat.lt_of_lt_of_le (zk_1).1 hnI) (zb_ceIo zk_1 (by decide)) rfl) rfl hl.1 (Nat.le_of_ble_eq_true rfl) ⟨Nat.le_of_ble_eq_true rfl, Nat.le_of_ble_eq_true rfl⟩ ⟨Nat.le_of_ble_eq_true rfl, Nat.le_of_ble_eq_true rfl⟩ dX7_endHour_47 rfl (fun H locs hP hS => ?_)
    refine lv_aload_n hx hb dX7_endHour_50 rfl (lv_at hl 2 rfl) ?_
    refine gf_X7_10 X hnI hP zk_0 dX7_endHour_51 ?_
    refine lv_iload_n hx hb dX7_endHour_54 rfl (lv_at hl 1 rfl) ?_
    obtain ⟨I7, hI7, hf⟩ := ob_e hf
    refine zr_cVv (rest := []) (As := [.int x2]) X hP hS (ct_X5_countAgreed (g := g) (nc := nc) (I := I6) (J := J) (O := O) hnI l zb_isB1 hI7) cw_X7_350 (zr_recv X hP (Nat.lt_of_lt_of_le (zk_1).1 hnI) (zb_ceIo zk_1 (by decide)) rfl) rfl hl.1 (Nat.le_of_ble_eq_true rfl) ⟨Nat.le_of_ble_eq_true rfl, Nat.le_of_ble_eq_true rfl⟩ ⟨Nat.le_of_ble_eq_true rfl, Nat.le_of_ble_eq_true rfl⟩ dX7_endHour_55 rfl (fun H locs hP hS => ?_)
    refine lv_aload_n hx hb dX7_endHour_58 rfl (lv_at hl 2 rfl) ?_
    refine gf_X7_10 X hnI hP zk_0 dX7_endHour_59 ?_
    obtain ⟨I8, hI8, hf⟩ := ob_e hf
    refine zr_cVv (rest := []) (As := []) X hP hS (ct_X5_trustAgain (g := g) (nc := nc) (I := I7) (J := J) (O := O) hnI l zb_isB1 hI8) cw_X7_353 (zr_recv X hP (Nat.lt_of_lt_of_le (zk_1).1 hnI) (zb_ceIo zk_1 (by decide)) rfl) rfl hl.1 (Nat.le_of_ble_eq_true rfl) ⟨Nat.le_of_ble_eq_true rfl, Nat.le_of_ble_eq_true rfl⟩ ⟨Nat.le_of_ble_eq_true rfl, Nat.le_of_ble_eq_true rfl⟩ dX7_endHour_62 rfl (fun H locs hP hS => ?_)
    refine lv_aload_n hx hb dX7_endHour_65 rfl (lv_at hl 2 rfl) ?_
    refine gf_X7_10 X hnI hP zk_0 dX7_endHour_66 ?_
    refine lv_iload_n hx hb dX7_endHour_69 rfl (lv_at hl 1 rfl) ?_
    obtain ⟨x9, I10, hx9_I10, hf⟩ := ob2_e hf
    refine zr_cVi (rest := []) (As := [.int x2]) X hP hS (ct_X5_dragVoters (g := g) (nc := nc) (I := I8) (J := J) (O := O) hnI l zb_isB1 hx9_I10) cw_X7_356 (zr_recv X hP (Nat.lt_of_lt_of_le (zk_1).1 hnI) (zb_ceIo zk_1 (by decide)) rfl) rfl hl.1 (Nat.le_of_ble_eq_true rfl) ⟨Nat.le_of_ble_eq_true rfl, Nat.le_of_ble_eq_true rfl⟩ ⟨Nat.le_of_ble_eq_true rfl, Nat.le_of_ble_eq_true rfl⟩ dX7_endHour_70 rfl (fun H locs hP hS => ?_)
    refine lv_istore_n (lv' := [(2, .int x9), (1, .int x2), (0, .ref (g.2.2 + 0))]) hx hb dX7_endHour_73 rfl hl (by decide) rfl (fun ls hl => ?_)
    cases hf
    exact K1 H locs ls hP hS (lv_sub hl [0, 2] rfl)
set_option maxHeartbeats 4000000 in
set_option maxRecDepth 100000 in
theorem ct_X7_checkForce {g : zb_G} {nc : Nat} (l : Launch) {a1 : Int32} {I J O : Mem} (hf : fX7_checkForce a1 = some 0) : zb_Ct l g nc yX7_checkForce cX7_checkForce 2 none 6 125 [.ref (g.2.2 + 0), .int a1] (zb_ce g I J O) none (zb_ce g I J O) := by
  refine zb_ofW (own := RX7) (by decide +kernel) rfl (Nat.le_of_ble_eq_true rfl) ?_
  intro p e s m args below meth c ls X hr hP hl
  have hx := X.1.1
  have hb := X.1.2.1
  have ho := X.1.2.2.2.1
  have hts := X.1.2.2.2.2
  have hZ := X.2.2.2
  have hl : lv_has ls 2 [(0, .ref (g.2.2 + 0)), (1, .int a1)] := hl
  have hS : va_S (zb_A g) s.heap s.heap [] := va_S.rf
  obtain ⟨H, hH⟩ : ∃ H, H = s.heap := ⟨_, rfl⟩
  obtain ⟨locs, hlocs⟩ : ∃ z : List Loc, z = [] := ⟨_, rfl⟩
  rw [← hH] at hP
  have hS : va_S (zb_A g) s.heap H locs := by rw [hH, hlocs]; exact hS
  show W p l e _ s m args below meth c s.heap [] 0 0 _ _
  rw [← hH, ← hlocs]
  rw [fX7_checkForce] at hf
  refine lv_iload_n hx hb dX7_checkForce_0 rfl (lv_at hl 1 rfl) ?_
  refine lv_iconst (v := (1 : Int32)) hx hb dX7_checkForce_1 (by decide) ?_
  refine lv_icmp_lt (tgt := 11) hx hb dX7_checkForce_2 (by decide) (fun hc => ?_) (fun hc => ?_)
  · have hf := if_t hc hf
    exact (thr_ne1 (by decide) hf).elim
  · have hf := if_f hc hf
    refine lv_iload_n hx hb dX7_checkForce_5 rfl (lv_at hl 1 rfl) ?_
    refine lv_bipush (v := (99 : Int32)) hx hb dX7_checkForce_6 (by decide) ?_
    refine lv_icmp_le (tgt := 22) hx hb dX7_checkForce_8 (by decide) (fun hc => ?_) (fun hc => ?_)
    · have hf := if_t hc hf
      exact zr_vret X hr hP hS rfl dX7_checkForce_22
    · have hf := if_f hc hf
      exact (thr_ne1 (by decide) hf).elim
set_option maxHeartbeats 4000000 in
set_option maxRecDepth 100000 in
theorem ct_X7_checkStorm {g : zb_G} {nc : Nat} (hnI : 306 ≤ nc) (l : Launch) {a1 : Int32} {a2 : Int32} {a3 : Int32} {I J O : Mem} (hf : fX7_checkStorm a1 a2 a3 I = some 0) : zb_Ct l g nc yX7_checkStorm cX7_checkStorm 4 none 7 146 [.ref (g.2.2 + 0), .int a1, .int a2, .int a3] (zb_ce g I J O) none (zb_ce g I J O) := by
  refine zb_ofW (own := RX7) (by decide +kernel) rfl (Nat.le_of_ble_eq_true rfl) ?_
  intro p e s m args below meth c ls X hr hP hl
  have hx := X.1.1
  have hb := X.1.2.1
  have ho := X.1.2.2.2.1
  have hts := X.1.2.2.2.2
  have hZ := X.2.2.2
  have hl : lv_has ls 4 [(0, .ref (g.2.2 + 0)), (1, .int a1), (2, .int a2), (3, .int a3)] := hl
  have hS : va_S (zb_A g) s.heap s.heap [] := va_S.rf
  obtain ⟨H, hH⟩ : ∃ H, H = s.heap := ⟨_, rfl⟩
  obtain ⟨locs, hlocs⟩ : ∃ z : List Loc, z = [] := ⟨_, rfl⟩
  rw [← hH] at hP
  have hS : va_S (zb_A g) s.heap H locs := by rw [hH, hlocs]; exact hS
  show W p l e _ s m args below meth c s.heap [] 0 0 _ _
  rw [← hH, ← hlocs]
  rw [fX7_checkStorm] at hf
  refine lv_aload_n hx hb dX7_checkStorm_0 rfl (lv_at hl 0 rfl) ?_
  refine lv_iload_n hx hb dX7_checkStorm_1 rfl (lv_at hl 2 rfl) ?_
  obtain ⟨e1, he1, hf⟩ := ob_e hf
  rcases Classical.em (e1 = 0) with he | he
  · have hf := if_t he hf
    rw [he] at he1
    refine zr_cVv (rest := []) (As := [.int a2]) X hP hS (ct_X7_checkBuoy (g := g) (nc := nc) (I := I) (J := J) (O := O) hnI l  he1) cw_X7_185 (zr_recv X hP (Nat.lt_of_lt_of_le (zk_0).1 hnI) (zb_ceIo zk_0 (by decide)) rfl) rfl hl.1 (Nat.le_of_ble_eq_true rfl) ⟨Nat.le_of_ble_eq_true rfl, Nat.le_of_ble_eq_true rfl⟩ ⟨Nat.le_of_ble_eq_true rfl, Nat.le_of_ble_eq_true rfl⟩ dX7_checkStorm_2 rfl (fun H locs hP hS => ?_)
    refine lv_aload_n hx hb dX7_checkStorm_5 rfl (lv_at hl 0 rfl) ?_
    refine lv_iload_n hx hb dX7_checkStorm_6 rfl (lv_at hl 3 rfl) ?_
    obtain ⟨e2, he2, hf⟩ := ob_e hf
    rcases Classical.em (e2 = 0) with he | he
    · have hf := if_t he hf
      rw [he] at he2
      refine zr_cVv (rest := []) (As := [.int a3]) X hP hS (ct_X7_checkBuoy (g := g) (nc := nc) (I := I) (J := J) (O := O) hnI l  he2) cw_X7_185 (zr_recv X hP (Nat.lt_of_lt_of_le (zk_0).1 hnI) (zb_ceIo zk_0 (by decide)) rfl) rfl hl.1 (Nat.le_of_ble_eq_true rfl) ⟨Nat.le_of_ble_eq_true rfl, Nat.le_of_ble_eq_true rfl⟩ ⟨Nat.le_of_ble_eq_true rfl, Nat.le_of_ble_eq_true rfl⟩ dX7_checkStorm_7 rfl (fun H locs hP hS => ?_)
      refine lv_aload_n hx hb dX7_checkStorm_10 rfl (lv_at hl 0 rfl) ?_
      refine lv_iload_n hx hb dX7_checkStorm_11 rfl (lv_at hl 1 rfl) ?_
      obtain ⟨e3, he3, hf⟩ := ob_e hf
      rcases Classical.em (e3 = 0) with he | he
      · have hf := if_t he hf
        rw [he] at he3
        refine zr_cVv (rest := []) (As := [.int a1]) X hP hS (ct_X7_checkForce (g := g) (nc := nc) (I := I) (J := J) (O := O)  l  he3) cw_X7_322 (zr_recv X hP (Nat.lt_of_lt_of_le (zk_0).1 hnI) (zb_ceIo zk_0 (by decide)) rfl) rfl hl.1 (Nat.le_of_ble_eq_true rfl) ⟨Nat.le_of_ble_eq_true rfl, Nat.le_of_ble_eq_true rfl⟩ ⟨Nat.le_of_ble_eq_true rfl, Nat.le_of_ble_eq_true rfl⟩ dX7_checkStorm_12 rfl (fun H locs hP hS => ?_)
        refine lv_iload_n hx hb dX7_checkStorm_15 rfl (lv_at hl 3 rfl) ?_
        refine lv_iload_n hx hb dX7_checkStorm_16 rfl (lv_at hl 2 rfl) ?_
        refine lv_icmp_ge (tgt := 31) hx hb dX7_checkStorm_17 (by decide) (fun hc => ?_) (fun hc => ?_)
        · have hf := if_t hc hf
          exact zr_vret X hr hP hS rfl dX7_checkStorm_31
        · have hf := if_f hc hf
          exact (thr_ne1 (by decide) hf).elim
      · have hf := if_f he hf
        exact (thr_ne1 he hf).elim
    · have hf := if_f he hf
      exact (thr_ne1 he hf).elim
  · have hf := if_f he hf
    exact (thr_ne1 he hf).elim
set_option maxHeartbeats 4000000 in
set_option maxRecDepth 100000 in
theorem ct_X7_storm {g : zb_G} {nc : Nat} (hnI : 306 ≤ nc) (l : Launch) {a1 : Int32} {a2 : Int32} {a3 : Int32} {I J O : Mem} {r9 : Int32} {Iq : Mem} (hf : fX7_storm a1 a2 a3 I = some (0, r9, Iq)) : zb_Ct l g nc yX7_storm cX7_storm 4 (some .int) 8 169 [.ref (g.2.2 + 0), .int a1, .int a2, .int a3] (zb_ce g I J O) (some (.int r9)) (zb_ce g Iq J O) := by
  refine zb_ofW (own := RX7) (by decide +kernel) rfl (Nat.le_of_ble_eq_true rfl) ?_
  intro p e s m args below meth c ls X hr hP hl
  have hx := X.1.1
  have hb := X.1.2.1
  have ho := X.1.2.2.2.1
  have hts := X.1.2.2.2.2
  have hZ := X.2.2.2
  have hl : lv_has ls 4 [(0, .ref (g.2.2 + 0)), (1, .int a1), (2, .int a2), (3, .int a3)] := hl
  have hS : va_S (zb_A g) s.heap s.heap [] := va_S.rf
  obtain ⟨H, hH⟩ : ∃ H, H = s.heap := ⟨_, rfl⟩
  obtain ⟨locs, hlocs⟩ : ∃ z : List Loc, z = [] := ⟨_, rfl⟩
  rw [← hH] at hP
  have hS : va_S (zb_A g) s.heap H locs := by rw [hH, hlocs]; exact hS
  show W p l e _ s m args below meth c s.heap [] 0 0 _ _
  rw [← hH, ← hlocs]
  rw [fX7_storm] at hf
  refine lv_aload_n hx hb dX7_storm_0 rfl (lv_at hl 0 rfl) ?_
  refine lv_iload_n hx hb dX7_storm_1 rfl (lv_at hl 1 rfl) ?_
  refine lv_iload_n hx hb dX7_storm_2 rfl (lv_at hl 2 rfl) ?_
  refine lv_iload_n hx hb dX7_storm_3 rfl (lv_at hl 3 rfl) ?_
  obtain ⟨e1, he1, hf⟩ := ob_e hf
  rcases Classical.em (e1 = 0) with he | he
  · have hf := if_t he hf
    rw [he] at he1
    refine zr_cVv (rest := []) (As := [.int a1, .int a2, .int a3]) X hP hS (ct_X7_checkStorm (g := g) (nc := nc) (I := I) (J := J) (O := O) hnI l  he1) cw_X7_311 (zr_recv X hP (Nat.lt_of_lt_of_le (zk_0).1 hnI) (zb_ceIo zk_0 (by decide)) rfl) rfl hl.1 (Nat.le_of_ble_eq_true rfl) ⟨Nat.le_of_ble_eq_true rfl, Nat.le_of_ble_eq_true rfl⟩ ⟨Nat.le_of_ble_eq_true rfl, Nat.le_of_ble_eq_true rfl⟩ dX7_storm_4 rfl (fun H locs hP hS => ?_)
    refine lv_aload_n hx hb dX7_storm_7 rfl (lv_at hl 0 rfl) ?_
    obtain ⟨I2, hI2, hf⟩ := ob_e hf
    refine zr_cVv (rest := []) (As := []) X hP hS (ct_X7_beginAct (g := g) (nc := nc) (I := I) (J := J) (O := O) hnI l  hI2) cw_X7_337 (zr_recv X hP (Nat.lt_of_lt_of_le (zk_0).1 hnI) (zb_ceIo zk_0 (by decide)) rfl) rfl hl.1 (Nat.le_of_ble_eq_true rfl) ⟨Nat.le_of_ble_eq_true rfl, Nat.le_of_ble_eq_true rfl⟩ ⟨Nat.le_of_ble_eq_true rfl, Nat.le_of_ble_eq_true rfl⟩ dX7_storm_8 rfl (fun H locs hP hS => ?_)
    refine lv_aload_n hx hb dX7_storm_11 rfl (lv_at hl 0 rfl) ?_
    refine gf_X7_10 X hnI hP zk_0 dX7_storm_12 ?_
    refine lv_iload_n hx hb dX7_storm_15 rfl (lv_at hl 1 rfl) ?_
    refine lv_iload_n hx hb dX7_storm_16 rfl (lv_at hl 2 rfl) ?_
    refine lv_iload_n hx hb dX7_storm_17 rfl (lv_at hl 3 rfl) ?_
    obtain ⟨x3, I4, hx3_I4, hf⟩ := ob2_e hf
    refine zr_cVi (rest := []) (As := [.int a1, .int a2, .int a3]) X hP hS (ct_X5_blow (g := g) (nc := nc) (I := I2) (J := J) (O := O) hnI l zb_isB1 hx3_I4) cw_X7_365 (zr_recv X hP (Nat.lt_of_lt_of_le (zk_1).1 hnI) (zb_ceIo zk_1 (by decide)) rfl) rfl hl.1 (Nat.le_of_ble_eq_true rfl) ⟨Nat.le_of_ble_eq_true rfl, Nat.le_of_ble_eq_true rfl⟩ ⟨Nat.le_of_ble_eq_true rfl, Nat.le_of_ble_eq_true rfl⟩ dX7_storm_18 rfl (fun H locs hP hS => ?_)
    cases hf
    exact zr_iret X hr hP hS dX7_storm_21
  · have hf := if_f he hf
    exact (thr_ne he hf).elim
set_option maxHeartbeats 4000000 in
set_option maxRecDepth 100000 in
theorem ct_X7_checkRope {g : zb_G} {nc : Nat} (hnI : 306 ≤ nc) (l : Launch) {a1 : Int32} {I J O : Mem} (hf : fX7_checkRope a1 I = some 0) : zb_Ct l g nc yX7_checkRope cX7_checkRope 2 none 6 125 [.ref (g.2.2 + 0), .int a1] (zb_ce g I J O) none (zb_ce g I J O) := by
  refine zb_ofW (own := RX7) (by decide +kernel) rfl (Nat.le_of_ble_eq_true rfl) ?_
  intro p e s m args below meth c ls X hr hP hl
  have hx := X.1.1
  have hb := X.1.2.1
  have ho := X.1.2.2.2.1
  have hts := X.1.2.2.2.2
  have hZ := X.2.2.2
  have hl : lv_has ls 2 [(0, .ref (g.2.2 + 0)), (1, .int a1)] := hl
  have hS : va_S (zb_A g) s.heap s.heap [] := va_S.rf
  obtain ⟨H, hH⟩ : ∃ H, H = s.heap := ⟨_, rfl⟩
  obtain ⟨locs, hlocs⟩ : ∃ z : List Loc, z = [] := ⟨_, rfl⟩
  rw [← hH] at hP
  have hS : va_S (zb_A g) s.heap H locs := by rw [hH, hlocs]; exact hS
  show W p l e _ s m args below meth c s.heap [] 0 0 _ _
  rw [← hH, ← hlocs]
  rw [fX7_checkRope] at hf
  refine lv_iload_n hx hb dX7_checkRope_0 rfl (lv_at hl 1 rfl) ?_
  refine lv_if_lt (tgt := 20) hx hb dX7_checkRope_1 (by decide) (fun hc => ?_) (fun hc => ?_)
  · have hf := if_t hc hf
    exact (thr_ne1 (by decide) hf).elim
  · have hf := if_f hc hf
    refine lv_iload_n hx hb dX7_checkRope_4 rfl (lv_at hl 1 rfl) ?_
    refine lv_aload_n hx hb dX7_checkRope_5 rfl (lv_at hl 0 rfl) ?_
    refine gf_X7_10 X hnI hP zk_0 dX7_checkRope_6 ?_
    refine gf_X7_88 X hnI hP zk_1 dX7_checkRope_9 ?_
    refine gf_X7_133 X hnI hP zk_2 dX7_checkRope_12 ?_
    refine lv_iconst (v := (1 : Int32)) hx hb dX7_checkRope_15 (by decide) ?_
    refine lv_isub hx hb dX7_checkRope_16 ?_
    refine lv_icmp_lt (tgt := 31) hx hb dX7_checkRope_17 (by decide) (fun hc => ?_) (fun hc => ?_)
    · have hf := if_t hc hf
      exact zr_vret X hr hP hS rfl dX7_checkRope_31
    · have hf := if_f hc hf
      exact (thr_ne1 (by decide) hf).elim
set_option maxHeartbeats 4000000 in
set_option maxRecDepth 100000 in
theorem ct_X7_refuse {g : zb_G} {nc : Nat} (hnI : 306 ≤ nc) (l : Launch) {a1 : Int32} {I J O : Mem} {r9 : Int32} {Iq : Mem} (hf : fX7_refuse a1 I = some (r9, Iq)) : zb_Ct l g nc yX7_refuse cX7_refuse 2 (some .int) 0 0 [.ref (g.2.2 + 0), .int a1] (zb_ce g I J O) (some (.int r9)) (zb_ce g Iq J O) := by
  refine zb_ofW (own := RX7) (by decide +kernel) rfl (Nat.le_of_ble_eq_true rfl) ?_
  intro p e s m args below meth c ls X hr hP hl
  have hx := X.1.1
  have hb := X.1.2.1
  have ho := X.1.2.2.2.1
  have hts := X.1.2.2.2.2
  have hZ := X.2.2.2
  have hl : lv_has ls 2 [(0, .ref (g.2.2 + 0)), (1, .int a1)] := hl
  have hS : va_S (zb_A g) s.heap s.heap [] := va_S.rf
  obtain ⟨H, hH⟩ : ∃ H, H = s.heap := ⟨_, rfl⟩
  obtain ⟨locs, hlocs⟩ : ∃ z : List Loc, z = [] := ⟨_, rfl⟩
  rw [← hH] at hP
  have hS : va_S (zb_A g) s.heap H locs := by rw [hH, hlocs]; exact hS
  show W p l e _ s m args below meth c s.heap [] 0 0 _ _
  rw [← hH, ← hlocs]
  rw [fX7_refuse] at hf
  refine lv_iload_n hx hb dX7_refuse_0 rfl (lv_at hl 1 rfl) ?_
  obtain ⟨I3, ht, hf⟩ := ob_e hf
  have K1 : ∀ (H : Heap) (locs : List Loc) (ls : Array Slot), va_P g.1 vwCl (zb_ws g nc (zb_ce g I3 J O)) H → va_S (zb_A g) s.heap H locs → lv_has ls 2 [(1, .int a1)] → W p l e { frames := 0, cells := 0, slots := 0, locals := 0 } s m args below meth c H locs 0 0 (MQ below (zb_Po g nc (zb_ce g Iq J O) (some (.int r9))) args s 0 0 (zb_A g)) (F0 m 23 ls []) := by
    intro H locs ls hP hS hl
    refine lv_iload_n hx hb dX7_refuse_23 rfl (lv_at hl 0 rfl) ?_
    refine lv_ineg hx hb dX7_refuse_24 ?_
    cases hf
    exact zr_iret X hr hP hS dX7_refuse_25
  have hf := ht
  refine lv_if_le (tgt := 23) hx hb dX7_refuse_1 (by decide) (fun hc => ?_) (fun hc => ?_)
  · have hf := if_t hc hf
    cases hf
    exact K1 H locs ls hP hS (lv_sub hl [1] rfl)
  · have hf := if_f hc hf
    refine lv_iload_n hx hb dX7_refuse_4 rfl (lv_at hl 1 rfl) ?_
    refine lv_aload_n hx hb dX7_refuse_5 rfl (lv_at hl 0 rfl) ?_
    refine gf_X7_36 X hnI hP zk_0 dX7_refuse_6 ?_
    refine zr_alenI X hP hnI zk_51 dX7_refuse_9 ?_
    refine lv_icmp_ge (tgt := 23) hx hb dX7_refuse_10 (by decide) (fun hc => ?_) (fun hc => ?_)
    · have hf := if_t hc hf
      cases hf
      exact K1 H locs ls hP hS (lv_sub hl [1] rfl)
    · have hf := if_f hc hf
      refine lv_aload_n hx hb dX7_refuse_13 rfl (lv_at hl 0 rfl) ?_
      refine gf_X7_36 X hnI hP zk_0 dX7_refuse_14 ?_
      refine lv_iload_n hx hb dX7_refuse_17 rfl (lv_at hl 1 rfl) ?_
      refine lv_dup2_11 hx hb dX7_refuse_18 rfl rfl ?_
      obtain ⟨x1, hx1, hf⟩ := ob_e hf
      refine zr_aldI X hP hnI zk_51 hx1 dX7_refuse_19 ?_
      refine lv_iconst (v := (1 : Int32)) hx hb dX7_refuse_20 (by decide) ?_
      refine lv_iadd hx hb dX7_refuse_21 ?_
      obtain ⟨I2, hI2, hf⟩ := ob_e hf
      refine zr_astI X hP hS hnI zk_51 hI2 dX7_refuse_22 (fun H locs hP hS => ?_)
      cases hf
      exact K1 H locs ls hP hS (lv_sub hl [1] rfl)
