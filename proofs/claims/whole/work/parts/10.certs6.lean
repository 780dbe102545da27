set_option maxHeartbeats 4000000 in
set_option maxRecDepth 100000 in
theorem lpX8_drifts_L34 {g : zb_G} {nc : Nat} (hnJ : 318 ≤ nc) (l : Launch) {a7 : Int32} {a6 : Int32} {a5 : Int32} {a1 : Int32} {a2 : Int32} {a3 : Int32} {a4 : Int32} {I J O : Mem} {p : Program} {e : Env} {s : State} {m : MethodId} {args : Array Value} {below : List Frame} {meth : Method} {c : Code} {Q : State → Prop} (X : zb_X g p m c cX8_drifts 10 s args RX8 meth) : ∀ {n9 : Nat} {a9 : Int32} {a8 : Int32} {z8 : Int32} {H : Heap} {locs : List Loc} {ls : Array Slot}, fX8_drifts_L34 a7 a6 a5 a1 a2 a3 a4 n9 a9 a8 = some z8 → (∀ (H : Heap) (locs : List Loc) (ls : Array Slot), va_P g.1 vwCl (zb_ws g nc (zb_ce g I J O)) H → va_S (zb_A g) s.heap H locs → lv_has ls 10 [(8, .int z8), (7, .int a7), (6, .int a6), (5, .int a5), (0, .ref (g.2.2 + 306)), (1, .int a1), (2, .int a2), (3, .int a3), (4, .int a4)] → W p l e { frames := 2, cells := 0, slots := 0, locals := 44 } s m args below meth c H locs 0 0 Q (F0 m 67 ls [])) → va_P g.1 vwCl (zb_ws g nc (zb_ce g I J O)) H → va_S (zb_A g) s.heap H locs → lv_has ls 10 [(9, .int a9), (8, .int a8), (7, .int a7), (6, .int a6), (5, .int a5), (0, .ref (g.2.2 + 306)), (1, .int a1), (2, .int a2), (3, .int a3), (4, .int a4)] → W p l e { frames := 2, cells := 0, slots := 0, locals := 44 } s m args below meth c H locs 0 0 Q (F0 m 34 ls []) := by
  have hx := X.1.1
  have hb := X.1.2.1
  have ho := X.1.2.2.2.1
  have hts := X.1.2.2.2.2
  have hZ := X.2.2.2
  intro n9
  induction n9 with
  | zero =>
    intro a9 a8 z8 H locs ls hf
    exact nomatch hf
  | succ n9 ih =>
    intro a9 a8 z8 H locs ls hf KK hP hS hl
    rw [fX8_drifts_L34] at hf
    refine lv_iload hx hb dX8_drifts_34 (lv_at hl 0 rfl) ?_
    refine lv_iload hx hb dX8_drifts_36 (lv_at hl 2 rfl) ?_
    refine lv_icmp_gt (tgt := 67) hx hb dX8_drifts_38 (by decide) (fun hc => ?_) (fun hc => ?_)
    · have hf := if_t hc hf
      cases hf
      exact KK H locs ls hP hS (lv_sub hl [1, 2, 3, 4, 5, 6, 7, 8, 9] rfl)
    · have hf := if_f hc hf
      refine lv_iload hx hb dX8_drifts_41 (lv_at hl 1 rfl) ?_
      refine lv_iload hx hb dX8_drifts_43 (lv_at hl 0 rfl) ?_
      refine lv_iload_n hx hb dX8_drifts_45 rfl (lv_at hl 7 rfl) ?_
      refine lv_iload_n hx hb dX8_drifts_46 rfl (lv_at hl 8 rfl) ?_
      obtain ⟨x3, hx3, hf⟩ := ob_e hf
      refine zr_cSi (rest := [.int a8]) (As := [.int a9, .int a2, .int a3]) X hP hS (ct_X8_within (g := g) (nc := nc) (I := I) (J := J) (O := O)  l  hx3) cw_X8_60  rfl hl.1 (Nat.le_of_ble_eq_true rfl) ⟨Nat.le_of_ble_eq_true rfl, Nat.le_of_ble_eq_true rfl⟩ ⟨Nat.le_of_ble_eq_true rfl, Nat.le_of_ble_eq_true rfl⟩ dX8_drifts_47 rfl (fun H locs hP hS => ?_)
      obtain ⟨x4, ht, hf⟩ := pl_e hf
      have K1 : ∀ (H : Heap) (locs : List Loc) (ls : Array Slot), va_P g.1 vwCl (zb_ws g nc (zb_ce g I J O)) H → va_S (zb_A g) s.heap H locs → lv_has ls 10 [(9, .int a9), (7, .int a7), (6, .int a6), (5, .int a5), (0, .ref (g.2.2 + 306)), (1, .int a1), (2, .int a2), (3, .int a3), (4, .int a4)] → W p l e { frames := 2, cells := 0, slots := 0, locals := 44 } s m args below meth c H locs 0 0 Q (F0 m 58 ls [.int x4, .int a8]) := by
        intro H locs ls hP hS hl
        refine lv_iadd hx hb dX8_drifts_58 ?_
        refine lv_istore (lv' := [(8, .int (a8 + x4)), (9, .int a9), (7, .int a7), (6, .int a6), (5, .int a5), (0, .ref (g.2.2 + 306)), (1, .int a1), (2, .int a2), (3, .int a3), (4, .int a4)]) hx hb dX8_drifts_59 hl (by decide) rfl (fun ls hl => ?_)
        refine lv_iinc (v := (a9 + (1 : Int32))) (lv' := [(9, .int (a9 + (1 : Int32))), (8, .int (a8 + x4)), (7, .int a7), (6, .int a6), (5, .int a5), (0, .ref (g.2.2 + 306)), (1, .int a1), (2, .int a2), (3, .int a3), (4, .int a4)]) hx hb dX8_drifts_61 hl (k := 1) rfl rfl (by decide) rfl (fun ls hl => ?_)
        refine lv_goto (tgt := 34) hx hb dX8_drifts_64 (by decide) ?_
        exact ih hf KK hP hS (lv_sub hl [0, 1, 2, 3, 4, 5, 6, 7, 8, 9] rfl)
      have hf := ht
      refine lv_if_eq (tgt := 57) hx hb dX8_drifts_50 (by decide) (fun hc => ?_) (fun hc => ?_)
      · have hf := if_t hc hf
        refine lv_iconst (v := (0 : Int32)) hx hb dX8_drifts_57 (by decide) ?_
        cases hf
        exact K1 H locs ls hP hS (lv_sub hl [0, 2, 3, 4, 5, 6, 7, 8, 9] rfl)
      · have hf := if_f hc hf
        refine lv_iconst (v := (1 : Int32)) hx hb dX8_drifts_53 (by decide) ?_
        refine lv_goto (tgt := 58) hx hb dX8_drifts_54 (by decide) ?_
        cases hf
        exact K1 H locs ls hP hS (lv_sub hl [0, 2, 3, 4, 5, 6, 7, 8, 9] rfl)
set_option maxHeartbeats 4000000 in
set_option maxRecDepth 100000 in
theorem lpX8_drifts_L6 {g : zb_G} {nc : Nat} (hnJ : 318 ≤ nc) (l : Launch) {a1 : Int32} {a2 : Int32} {a3 : Int32} {a4 : Int32} {I O : Mem} {p : Program} {e : Env} {s : State} {m : MethodId} {args : Array Value} {below : List Frame} {meth : Method} {c : Code} {Q : State → Prop} (X : zb_X g p m c cX8_drifts 10 s args RX8 meth) : ∀ {n9 : Nat} {a6 : Int32} {a5 : Int32} {J : Mem} {z5 : Int32} {H : Heap} {locs : List Loc} {ls : Array Slot}, fX8_drifts_L6 a1 a2 a3 a4 n9 a6 a5 J = some z5 → (∀ (H : Heap) (locs : List Loc) (ls : Array Slot), va_P g.1 vwCl (zb_ws g nc (zb_ce g I J O)) H → va_S (zb_A g) s.heap H locs → lv_has ls 10 [(5, .int z5)] → W p l e { frames := 2, cells := 0, slots := 0, locals := 44 } s m args below meth c H locs 0 0 Q (F0 m 108 ls [])) → va_P g.1 vwCl (zb_ws g nc (zb_ce g I J O)) H → va_S (zb_A g) s.heap H locs → lv_has ls 10 [(6, .int a6), (5, .int a5), (0, .ref (g.2.2 + 306)), (1, .int a1), (2, .int a2), (3, .int a3), (4, .int a4)] → W p l e { frames := 2, cells := 0, slots := 0, locals := 44 } s m args below meth c H locs 0 0 Q (F0 m 6 ls []) := by
  have hx := X.1.1
  have hb := X.1.2.1
  have ho := X.1.2.2.2.1
  have hts := X.1.2.2.2.2
  have hZ := X.2.2.2
  intro n9
  induction n9 with
  | zero =>
    intro a6 a5 J z5 H locs ls hf
    exact nomatch hf
  | succ n9 ih =>
    intro a6 a5 J z5 H locs ls hf KK hP hS hl
    rw [fX8_drifts_L6] at hf
    refine lv_iload hx hb dX8_drifts_6 (lv_at hl 0 rfl) ?_
    refine lv_aload_n hx hb dX8_drifts_8 rfl (lv_at hl 2 rfl) ?_
    refine gf_X8_7 X hnJ hP zk_306 dX8_drifts_9 ?_
    refine lv_iconst (v := (0 : Int32)) hx hb dX8_drifts_12 (by decide) ?_
    obtain ⟨x1, hx1, hf⟩ := ob_e hf
    refine zr_aldJ X hP hnJ zk_307 hx1 dX8_drifts_13 ?_
    refine lv_icmp_ge (tgt := 108) hx hb dX8_drifts_14 (by decide) (fun hc => ?_) (fun hc => ?_)
    · have hf := if_t hc hf
      cases hf
      exact KK H locs ls hP hS (lv_sub hl [1] rfl)
    · have hf := if_f hc hf
      refine lv_aload_n hx hb dX8_drifts_17 rfl (lv_at hl 2 rfl) ?_
      refine lv_iload hx hb dX8_drifts_18 (lv_at hl 0 rfl) ?_
      refine lv_iload hx hb dX8_drifts_20 (lv_at hl 6 rfl) ?_
      obtain ⟨x2, hx2, hf⟩ := ob_e hf
      refine zr_cVi (rest := []) (As := [.int a6, .int a4]) X hP hS (ct_X8_lastOf (g := g) (nc := nc) (I := I) (J := J) (O := O) hnJ l  hx2) cw_X8_267 (zr_recv X hP (Nat.lt_of_lt_of_le (zk_306).2.1 hnJ) (zb_ceJo zk_306 (by decide)) rfl) rfl hl.1 (Nat.le_of_ble_eq_true rfl) ⟨Nat.le_of_ble_eq_true rfl, Nat.le_of_ble_eq_true rfl⟩ ⟨Nat.le_of_ble_eq_true rfl, Nat.le_of_ble_eq_true rfl⟩ dX8_drifts_22 rfl (fun H locs hP hS => ?_)
      refine lv_istore (lv' := [(7, .int x2), (6, .int a6), (5, .int a5), (0, .ref (g.2.2 + 306)), (1, .int a1), (2, .int a2), (3, .int a3), (4, .int a4)]) hx hb dX8_drifts_25 hl (by decide) rfl (fun ls hl => ?_)
      refine lv_iconst (v := (0 : Int32)) hx hb dX8_drifts_27 (by decide) ?_
      refine lv_istore (lv' := [(8, .int (0 : Int32)), (7, .int x2), (6, .int a6), (5, .int a5), (0, .ref (g.2.2 + 306)), (1, .int a1), (2, .int a2), (3, .int a3), (4, .int a4)]) hx hb dX8_drifts_28 hl (by decide) rfl (fun ls hl => ?_)
      refine lv_iload hx hb dX8_drifts_30 (lv_at hl 2 rfl) ?_
      refine lv_istore (lv' := [(9, .int a6), (8, .int (0 : Int32)), (7, .int x2), (6, .int a6), (5, .int a5), (0, .ref (g.2.2 + 306)), (1, .int a1), (2, .int a2), (3, .int a3), (4, .int a4)]) hx hb dX8_drifts_32 hl (by decide) rfl (fun ls hl => ?_)
      obtain ⟨x5, hx5, hf⟩ := ob_e hf
      have K2 : ∀ (H : Heap) (locs : List Loc) (ls : Array Slot), va_P g.1 vwCl (zb_ws g nc (zb_ce g I J O)) H → va_S (zb_A g) s.heap H locs → lv_has ls 10 [(8, .int x5), (7, .int x2), (6, .int a6), (5, .int a5), (0, .ref (g.2.2 + 306)), (1, .int a1), (2, .int a2), (3, .int a3), (4, .int a4)] → W p l e { frames := 2, cells := 0, slots := 0, locals := 44 } s m args below meth c H locs 0 0 Q (F0 m 67 ls []) := by
        intro H locs ls hP hS hl
        refine lv_iload hx hb dX8_drifts_67 (lv_at hl 3 rfl) ?_
        refine lv_aload_n hx hb dX8_drifts_69 rfl (lv_at hl 4 rfl) ?_
        refine lv_iload hx hb dX8_drifts_70 (lv_at hl 2 rfl) ?_
        refine lv_iload hx hb dX8_drifts_72 (lv_at hl 1 rfl) ?_
        obtain ⟨x6, hx6, hf⟩ := ob_e hf
        refine zr_cVi (rest := [.int a5]) (As := [.int a6, .int x2]) X hP hS (ct_X8_holds (g := g) (nc := nc) (I := I) (J := J) (O := O) hnJ l  hx6) cw_X8_273 (zr_recv X hP (Nat.lt_of_lt_of_le (zk_306).2.1 hnJ) (zb_ceJo zk_306 (by decide)) rfl) rfl hl.1 (Nat.le_of_ble_eq_true rfl) ⟨Nat.le_of_ble_eq_true rfl, Nat.le_of_ble_eq_true rfl⟩ ⟨Nat.le_of_ble_eq_true rfl, Nat.le_of_ble_eq_true rfl⟩ dX8_drifts_74 rfl (fun H locs hP hS => ?_)
        refine lv_iload_n hx hb dX8_drifts_77 rfl (lv_at hl 5 rfl) ?_
        refine lv_iload hx hb dX8_drifts_78 (lv_at hl 0 rfl) ?_
        refine lv_imul hx hb dX8_drifts_80 ?_
        obtain ⟨x8, ht, hf⟩ := ob_e hf
        have K3 : ∀ (H : Heap) (locs : List Loc) (ls : Array Slot), va_P g.1 vwCl (zb_ws g nc (zb_ce g I J O)) H → va_S (zb_A g) s.heap H locs → lv_has ls 10 [(7, .int x2), (0, .ref (g.2.2 + 306)), (1, .int a1), (2, .int a2), (3, .int a3), (4, .int a4)] → W p l e { frames := 2, cells := 0, slots := 0, locals := 44 } s m args below meth c H locs 0 0 Q (F0 m 95 ls [.int x8, .int a5]) := by
          intro H locs ls hP hS hl
          refine lv_ior hx hb dX8_drifts_95 ?_
          refine lv_istore (lv' := [(5, .int (a5 ||| x8)), (7, .int x2), (0, .ref (g.2.2 + 306)), (1, .int a1), (2, .int a2), (3, .int a3), (4, .int a4)]) hx hb dX8_drifts_96 hl (by decide) rfl (fun ls hl => ?_)
          refine lv_iload hx hb dX8_drifts_98 (lv_at hl 1 rfl) ?_
          refine lv_istore (lv' := [(6, .int x2), (5, .int (a5 ||| x8)), (7, .int x2), (0, .ref (g.2.2 + 306)), (1, .int a1), (2, .int a2), (3, .int a3), (4, .int a4)]) hx hb dX8_drifts_100 hl (by decide) rfl (fun ls hl => ?_)
          refine lv_iinc (v := (x2 + (1 : Int32))) (lv' := [(6, .int (x2 + (1 : Int32))), (5, .int (a5 ||| x8)), (7, .int x2), (0, .ref (g.2.2 + 306)), (1, .int a1), (2, .int a2), (3, .int a3), (4, .int a4)]) hx hb dX8_drifts_102 hl (k := 0) rfl rfl (by decide) rfl (fun ls hl => ?_)
          refine lv_goto (tgt := 6) hx hb dX8_drifts_105 (by decide) ?_
          exact ih hf KK hP hS (lv_sub hl [0, 1, 3, 4, 5, 6, 7] rfl)
        have hf := ht
        refine lv_icmp_ge (tgt := 94) hx hb dX8_drifts_81 (by decide) (fun hc => ?_) (fun hc => ?_)
        · have hf := if_t hc hf
          refine lv_iconst (v := (0 : Int32)) hx hb dX8_drifts_94 (by decide) ?_
          cases hf
          exact K3 H locs ls hP hS (lv_sub hl [1, 4, 5, 6, 7, 8] rfl)
        · have hf := if_f hc hf
          refine lv_iload hx hb dX8_drifts_84 (lv_at hl 2 rfl) ?_
          refine lv_iload hx hb dX8_drifts_86 (lv_at hl 1 rfl) ?_
          obtain ⟨x7, hx7, hf⟩ := ob_e hf
          refine zr_cSi (rest := [.int a5]) (As := [.int a6, .int x2]) X hP hS (ct_X8_setOf (g := g) (nc := nc) (I := I) (J := J) (O := O)  l  hx7) cw_X8_270  rfl hl.1 (Nat.le_of_ble_eq_true rfl) ⟨Nat.le_of_ble_eq_true rfl, Nat.le_of_ble_eq_true rfl⟩ ⟨Nat.le_of_ble_eq_true rfl, Nat.le_of_ble_eq_true rfl⟩ dX8_drifts_88 rfl (fun H locs hP hS => ?_)
          refine lv_goto (tgt := 95) hx hb dX8_drifts_91 (by decide) ?_
          cases hf
          exact K3 H locs ls hP hS (lv_sub hl [1, 4, 5, 6, 7, 8] rfl)
      exact lpX8_drifts_L34 hnJ l  X hx5 K2 hP hS (lv_sub hl [0, 1, 2, 3, 4, 5, 6, 7, 8, 9] rfl)
set_option maxHeartbeats 4000000 in
set_option maxRecDepth 100000 in
theorem ct_X8_drifts {g : zb_G} {nc : Nat} (hnJ : 318 ≤ nc) (l : Launch) {a1 : Int32} {a2 : Int32} {a3 : Int32} {a4 : Int32} {I J O : Mem} {r9 : Int32} (hf : fX8_drifts a1 a2 a3 a4 J = some r9) : zb_Ct l g nc yX8_drifts cX8_drifts 10 (some .int) 2 44 [.ref (g.2.2 + 306), .int a1, .int a2, .int a3, .int a4] (zb_ce g I J O) (some (.int r9)) (zb_ce g I J O) := by
  refine zb_ofW (own := RX8) (by decide +kernel) rfl (Nat.le_of_ble_eq_true rfl) ?_
  intro p e s m args below meth c ls X hr hP hl
  have hx := X.1.1
  have hb := X.1.2.1
  have ho := X.1.2.2.2.1
  have hts := X.1.2.2.2.2
  have hZ := X.2.2.2
  have hl : lv_has ls 10 [(0, .ref (g.2.2 + 306)), (1, .int a1), (2, .int a2), (3, .int a3), (4, .int a4)] := hl
  have hS : va_S (zb_A g) s.heap s.heap [] := va_S.rf
  obtain ⟨H, hH⟩ : ∃ H, H = s.heap := ⟨_, rfl⟩
  obtain ⟨locs, hlocs⟩ : ∃ z : List Loc, z = [] := ⟨_, rfl⟩
  rw [← hH] at hP
  have hS : va_S (zb_A g) s.heap H locs := by rw [hH, hlocs]; exact hS
  show W p l e _ s m args below meth c s.heap [] 0 0 _ _
  rw [← hH, ← hlocs]
  rw [fX8_drifts] at hf
  refine lv_iconst (v := (0 : Int32)) hx hb dX8_drifts_0 (by decide) ?_
  refine lv_istore (lv' := [(5, .int (0 : Int32)), (0, .ref (g.2.2 + 306)), (1, .int a1), (2, .int a2), (3, .int a3), (4, .int a4)]) hx hb dX8_drifts_1 hl (by decide) rfl (fun ls hl => ?_)
  refine lv_iconst (v := (0 : Int32)) hx hb dX8_drifts_3 (by decide) ?_
  refine lv_istore (lv' := [(6, .int (0 : Int32)), (5, .int (0 : Int32)), (0, .ref (g.2.2 + 306)), (1, .int a1), (2, .int a2), (3, .int a3), (4, .int a4)]) hx hb dX8_drifts_4 hl (by decide) rfl (fun ls hl => ?_)
  obtain ⟨x9, hx9, hf⟩ := ob_e hf
  have K4 : ∀ (H : Heap) (locs : List Loc) (ls : Array Slot), va_P g.1 vwCl (zb_ws g nc (zb_ce g I J O)) H → va_S (zb_A g) s.heap H locs → lv_has ls 10 [(5, .int x9)] → W p l e { frames := 2, cells := 0, slots := 0, locals := 44 } s m args below meth c H locs 0 0 (MQ below (zb_Po g nc (zb_ce g I J O) (some (.int r9))) args s 0 0 (zb_A g)) (F0 m 108 ls []) := by
    intro H locs ls hP hS hl
    refine lv_iload hx hb dX8_drifts_108 (lv_at hl 0 rfl) ?_
    cases hf
    exact zr_iret X hr hP hS dX8_drifts_110
  exact lpX8_drifts_L6 hnJ l  X hx9 K4 hP hS (lv_sub hl [0, 1, 2, 3, 4, 5, 6] rfl)
set_option maxHeartbeats 4000000 in
set_option maxRecDepth 100000 in
theorem ct_X8_noStorm {g : zb_G} {nc : Nat} (hnJ : 318 ≤ nc) (l : Launch) {a1 : Int32} {a2 : Int32} {a3 : Int32} {I J O : Mem} {r9 : Int32} {Jq : Mem} (hf : fX8_noStorm a1 a2 a3 J = some (r9, Jq)) : zb_Ct l g nc yX8_noStorm cX8_noStorm 4 (some .boolean) 2 43 [.ref (g.2.2 + 306), .int a1, .int a2, .int a3] (zb_ce g I J O) (some (.int r9)) (zb_ce g I Jq O) := by
  refine zb_ofW (own := RX8) (by decide +kernel) rfl (Nat.le_of_ble_eq_true rfl) ?_
  intro p e s m args below meth c ls X hr hP hl
  have hx := X.1.1
  have hb := X.1.2.1
  have ho := X.1.2.2.2.1
  have hts := X.1.2.2.2.2
  have hZ := X.2.2.2
  have hl : lv_has ls 4 [(0, .ref (g.2.2 + 306)), (1, .int a1), (2, .int a2), (3, .int a3)] := hl
  have hS : va_S (zb_A g) s.heap s.heap [] := va_S.rf
  obtain ⟨H, hH⟩ : ∃ H, H = s.heap := ⟨_, rfl⟩
  obtain ⟨locs, hlocs⟩ : ∃ z : List Loc, z = [] := ⟨_, rfl⟩
  rw [← hH] at hP
  have hS : va_S (zb_A g) s.heap H locs := by rw [hH, hlocs]; exact hS
  show W p l e _ s m args below meth c s.heap [] 0 0 _ _
  rw [← hH, ← hlocs]
  rw [fX8_noStorm] at hf
  refine lv_aload_n hx hb dX8_noStorm_0 rfl (lv_at hl 0 rfl) ?_
  refine lv_iload_n hx hb dX8_noStorm_1 rfl (lv_at hl 2 rfl) ?_
  obtain ⟨x1, J2, hx1_J2, hf⟩ := ob2_e hf
  refine zr_cVi (rest := []) (As := [.int a2]) X hP hS (ct_X8_noBuoy (g := g) (nc := nc) (I := I) (J := J) (O := O) hnJ l  hx1_J2) cw_X8_255 (zr_recv X hP (Nat.lt_of_lt_of_le (zk_306).2.1 hnJ) (zb_ceJo zk_306 (by decide)) rfl) rfl hl.1 (Nat.le_of_ble_eq_true rfl) ⟨Nat.le_of_ble_eq_true rfl, Nat.le_of_ble_eq_true rfl⟩ ⟨Nat.le_of_ble_eq_true rfl, Nat.le_of_ble_eq_true rfl⟩ dX8_noStorm_2 rfl (fun H locs hP hS => ?_)
  obtain ⟨x9, J10, ht, hf⟩ := ob2_e hf
  have K1 : ∀ (H : Heap) (locs : List Loc) (ls : Array Slot), va_P g.1 vwCl (zb_ws g nc (zb_ce g I J10 O)) H → va_S (zb_A g) s.heap H locs → lv_has ls 4 [] → W p l e { frames := 2, cells := 0, slots := 0, locals := 43 } s m args below meth c H locs 0 0 (MQ below (zb_Po g nc (zb_ce g I Jq O) (some (.int r9))) args s 0 0 (zb_A g)) (F0 m 49 ls [.int x9]) := by
    intro H locs ls hP hS hl
    obtain ⟨v9, hv9, hf⟩ := ob_e hf
    obtain ⟨hn9, he9⟩ := zbo_e hv9
    cases hf
    cases he9
    exact zr_zret X hr hn9 hP hS dX8_noStorm_49
  have hf := ht
  refine lv_if_ne (tgt := 44) hx hb dX8_noStorm_5 (by decide) (fun hc => ?_) (fun hc => ?_)
  · have hf := if_f hc hf
    refine lv_iconst (v := (1 : Int32)) hx hb dX8_noStorm_44 (by decide) ?_
    refine lv_goto (tgt := 49) hx hb dX8_noStorm_45 (by decide) ?_
    cases hf
    exact K1 H locs ls hP hS (lv_sub hl [] rfl)
  · have hf := if_t hc hf
    refine lv_aload_n hx hb dX8_noStorm_8 rfl (lv_at hl 0 rfl) ?_
    refine lv_iload_n hx hb dX8_noStorm_9 rfl (lv_at hl 3 rfl) ?_
    obtain ⟨x3, J4, hx3_J4, hf⟩ := ob2_e hf
    refine zr_cVi (rest := []) (As := [.int a3]) X hP hS (ct_X8_noBuoy (g := g) (nc := nc) (I := I) (J := J2) (O := O) hnJ l  hx3_J4) cw_X8_255 (zr_recv X hP (Nat.lt_of_lt_of_le (zk_306).2.1 hnJ) (zb_ceJo zk_306 (by decide)) rfl) rfl hl.1 (Nat.le_of_ble_eq_true rfl) ⟨Nat.le_of_ble_eq_true rfl, Nat.le_of_ble_eq_true rfl⟩ ⟨Nat.le_of_ble_eq_true rfl, Nat.le_of_ble_eq_true rfl⟩ dX8_noStorm_10 rfl (fun H locs hP hS => ?_)
    refine lv_if_ne (tgt := 44) hx hb dX8_noStorm_13 (by decide) (fun hc => ?_) (fun hc => ?_)
    · have hf := if_f hc hf
      refine lv_iconst (v := (1 : Int32)) hx hb dX8_noStorm_44 (by decide) ?_
      refine lv_goto (tgt := 49) hx hb dX8_noStorm_45 (by decide) ?_
      cases hf
      exact K1 H locs ls hP hS (lv_sub hl [] rfl)
    · have hf := if_t hc hf
      refine lv_aload_n hx hb dX8_noStorm_16 rfl (lv_at hl 0 rfl) ?_
      refine lv_iload_n hx hb dX8_noStorm_17 rfl (lv_at hl 1 rfl) ?_
      refine lv_iconst (v := (1 : Int32)) hx hb dX8_noStorm_18 (by decide) ?_
      refine lv_bipush (v := (99 : Int32)) hx hb dX8_noStorm_19 (by decide) ?_
      obtain ⟨x5, hx5, hf⟩ := ob_e hf
      refine zr_cSi (rest := [.ref (g.2.2 + 306)]) (As := [.int a1, .int (1 : Int32), .int (99 : Int32)]) X hP hS (ct_X8_within (g := g) (nc := nc) (I := I) (J := J4) (O := O)  l  hx5) cw_X8_60  rfl hl.1 (Nat.le_of_ble_eq_true rfl) ⟨Nat.le_of_ble_eq_true rfl, Nat.le_of_ble_eq_true rfl⟩ ⟨Nat.le_of_ble_eq_true rfl, Nat.le_of_ble_eq_true rfl⟩ dX8_noStorm_21 rfl (fun H locs hP hS => ?_)
      obtain ⟨x6, ht, hf⟩ := pl_e hf
      have K2 : ∀ (H : Heap) (locs : List Loc) (ls : Array Slot), va_P g.1 vwCl (zb_ws g nc (zb_ce g I J4 O)) H → va_S (zb_A g) s.heap H locs → lv_has ls 4 [] → W p l e { frames := 2, cells := 0, slots := 0, locals := 43 } s m args below meth c H locs 0 0 (MQ below (zb_Po g nc (zb_ce g I Jq O) (some (.int r9))) args s 0 0 (zb_A g)) (F0 m 37 ls [.int x6, .ref (g.2.2 + 306)]) := by
        intro H locs ls hP hS hl
        refine lv_iconst (v := (2 : Int32)) hx hb dX8_noStorm_37 (by decide) ?_
        obtain ⟨x7, J8, hx7_J8, hf⟩ := ob2_e hf
        refine zr_cVi (rest := []) (As := [.int x6, .int (2 : Int32)]) X hP hS (ct_X8_throwsIf (g := g) (nc := nc) (I := I) (J := J4) (O := O) hnJ l  hx7_J8) cw_X8_64 (zr_recv X hP (Nat.lt_of_lt_of_le (zk_306).2.1 hnJ) (zb_ceJo zk_306 (by decide)) rfl) rfl hl.1 (Nat.le_of_ble_eq_true rfl) ⟨Nat.le_of_ble_eq_true rfl, Nat.le_of_ble_eq_true rfl⟩ ⟨Nat.le_of_ble_eq_true rfl, Nat.le_of_ble_eq_true rfl⟩ dX8_noStorm_38 rfl (fun H locs hP hS => ?_)
        refine lv_if_eq (tgt := 48) hx hb dX8_noStorm_41 (by decide) (fun hc => ?_) (fun hc => ?_)
        · have hf := if_t hc hf
          refine lv_iconst (v := (0 : Int32)) hx hb dX8_noStorm_48 (by decide) ?_
          cases hf
          exact K1 H locs ls hP hS (lv_sub hl [] rfl)
        · have hf := if_f hc hf
          refine lv_iconst (v := (1 : Int32)) hx hb dX8_noStorm_44 (by decide) ?_
          refine lv_goto (tgt := 49) hx hb dX8_noStorm_45 (by decide) ?_
          cases hf
          exact K1 H locs ls hP hS (lv_sub hl [] rfl)
      have hf := ht
      refine lv_if_eq (tgt := 32) hx hb dX8_noStorm_24 (by decide) (fun hc => ?_) (fun hc => ?_)
      · have hf := if_t hc hf
        refine lv_iconst (v := (1 : Int32)) hx hb dX8_noStorm_32 (by decide) ?_
        refine lv_goto (tgt := 37) hx hb dX8_noStorm_33 (by decide) ?_
        cases hf
        exact K2 H locs ls hP hS (lv_sub hl [] rfl)
      · have hf := if_f hc hf
        refine lv_iload_n hx hb dX8_noStorm_27 rfl (lv_at hl 3 rfl) ?_
        refine lv_iload_n hx hb dX8_noStorm_28 rfl (lv_at hl 2 rfl) ?_
        refine lv_icmp_ge (tgt := 36) hx hb dX8_noStorm_29 (by decide) (fun hc => ?_) (fun hc => ?_)
        · have hf := if_t hc hf
          refine lv_iconst (v := (0 : Int32)) hx hb dX8_noStorm_36 (by decide) ?_
          cases hf
          exact K2 H locs ls hP hS (lv_sub hl [] rfl)
        · have hf := if_f hc hf
          refine lv_iconst (v := (1 : Int32)) hx hb dX8_noStorm_32 (by decide) ?_
          refine lv_goto (tgt := 37) hx hb dX8_noStorm_33 (by decide) ?_
          cases hf
          exact K2 H locs ls hP hS (lv_sub hl [] rfl)
set_option maxHeartbeats 4000000 in
set_option maxRecDepth 100000 in
theorem ct_X8_wouldBreak {g : zb_G} {nc : Nat} (hnJ : 318 ≤ nc) (l : Launch) {a1 : Int32} {a2 : Int32} {a3 : Int32} {I J O : Mem} {r9 : Int32} {Jq : Mem} (hf : fX8_wouldBreak a1 a2 a3 J = some (r9, Jq)) : zb_Ct l g nc yX8_wouldBreak cX8_wouldBreak 4 (some .int) 3 66 [.ref (g.2.2 + 306), .int a1, .int a2, .int a3] (zb_ce g I J O) (some (.int r9)) (zb_ce g I Jq O) := by
  refine zb_ofW (own := RX8) (by decide +kernel) rfl (Nat.le_of_ble_eq_true rfl) ?_
  intro p e s m args below meth c ls X hr hP hl
  have hx := X.1.1
  have hb := X.1.2.1
  have ho := X.1.2.2.2.1
  have hts := X.1.2.2.2.2
  have hZ := X.2.2.2
  have hl : lv_has ls 4 [(0, .ref (g.2.2 + 306)), (1, .int a1), (2, .int a2), (3, .int a3)] := hl
  have hS : va_S (zb_A g) s.heap s.heap [] := va_S.rf
  obtain ⟨H, hH⟩ : ∃ H, H = s.heap := ⟨_, rfl⟩
  obtain ⟨locs, hlocs⟩ : ∃ z : List Loc, z = [] := ⟨_, rfl⟩
  rw [← hH] at hP
  have hS : va_S (zb_A g) s.heap H locs := by rw [hH, hlocs]; exact hS
  show W p l e _ s m args below meth c s.heap [] 0 0 _ _
  rw [← hH, ← hlocs]
  rw [fX8_wouldBreak] at hf
  refine lv_aload_n hx hb dX8_wouldBreak_0 rfl (lv_at hl 0 rfl) ?_
  refine lv_iconst (v := (0 : Int32)) hx hb dX8_wouldBreak_1 (by decide) ?_
  refine pf_X8_57 X hnJ hP hS zk_306 dX8_wouldBreak_2 (fun H locs hP hS => ?_)
  refine lv_aload_n hx hb dX8_wouldBreak_5 rfl (lv_at hl 0 rfl) ?_
  refine lv_iload_n hx hb dX8_wouldBreak_6 rfl (lv_at hl 1 rfl) ?_
  refine lv_iload_n hx hb dX8_wouldBreak_7 rfl (lv_at hl 2 rfl) ?_
  refine lv_iload_n hx hb dX8_wouldBreak_8 rfl (lv_at hl 3 rfl) ?_
  obtain ⟨x1, J2, hx1_J2, hf⟩ := ob2_e hf
  refine zr_cVi (rest := []) (As := [.int a1, .int a2, .int a3]) X hP hS (ct_X8_noStorm (g := g) (nc := nc) (I := I) (J := (wr J 306 0 (0 : Int32))) (O := O) hnJ l  hx1_J2) cw_X8_276 (zr_recv X hP (Nat.lt_of_lt_of_le (zk_306).2.1 hnJ) (zb_ceJo zk_306 (by decide)) rfl) rfl hl.1 (Nat.le_of_ble_eq_true rfl) ⟨Nat.le_of_ble_eq_true rfl, Nat.le_of_ble_eq_true rfl⟩ ⟨Nat.le_of_ble_eq_true rfl, Nat.le_of_ble_eq_true rfl⟩ dX8_wouldBreak_9 rfl (fun H locs hP hS => ?_)
  obtain ⟨x4, ht, hf⟩ := ob_e hf
  have K1 : ∀ (H : Heap) (locs : List Loc) (ls : Array Slot), va_P g.1 vwCl (zb_ws g nc (zb_ce g I J2 O)) H → va_S (zb_A g) s.heap H locs → lv_has ls 4 [] → W p l e { frames := 3, cells := 0, slots := 0, locals := 66 } s m args below meth c H locs 0 0 (MQ below (zb_Po g nc (zb_ce g I Jq O) (some (.int r9))) args s 0 0 (zb_A g)) (F0 m 26 ls [.int x4]) := by
    intro H locs ls hP hS hl
    cases hf
    exact zr_iret X hr hP hS dX8_wouldBreak_26
  have hf := ht
  refine lv_if_eq (tgt := 19) hx hb dX8_wouldBreak_12 (by decide) (fun hc => ?_) (fun hc => ?_)
  · have hf := if_t hc hf
    refine lv_aload_n hx hb dX8_wouldBreak_19 rfl (lv_at hl 0 rfl) ?_
    refine lv_iload_n hx hb dX8_wouldBreak_20 rfl (lv_at hl 1 rfl) ?_
    refine lv_iload_n hx hb dX8_wouldBreak_21 rfl (lv_at hl 2 rfl) ?_
    refine lv_iload_n hx hb dX8_wouldBreak_22 rfl (lv_at hl 3 rfl) ?_
    obtain ⟨x3, hx3, hf⟩ := ob_e hf
    refine zr_cVi (rest := []) (As := [.int a1, .int a2, .int a3]) X hP hS (ct_X8_breaks (g := g) (nc := nc) (I := I) (J := J2) (O := O) hnJ l  hx3) cw_X8_279 (zr_recv X hP (Nat.lt_of_lt_of_le (zk_306).2.1 hnJ) (zb_ceJo zk_306 (by decide)) rfl) rfl hl.1 (Nat.le_of_ble_eq_true rfl) ⟨Nat.le_of_ble_eq_true rfl, Nat.le_of_ble_eq_true rfl⟩ ⟨Nat.le_of_ble_eq_true rfl, Nat.le_of_ble_eq_true rfl⟩ dX8_wouldBreak_23 rfl (fun H locs hP hS => ?_)
    cases hf
    exact K1 H locs ls hP hS (lv_sub hl [] rfl)
  · have hf := if_f hc hf
    refine lv_iconst (v := (0 : Int32)) hx hb dX8_wouldBreak_15 (by decide) ?_
    refine lv_goto (tgt := 26) hx hb dX8_wouldBreak_16 (by decide) ?_
    cases hf
    exact K1 H locs ls hP hS (lv_sub hl [] rfl)
set_option maxHeartbeats 4000000 in
set_option maxRecDepth 100000 in
theorem ct_X8_wouldDrift {g : zb_G} {nc : Nat} (hnJ : 318 ≤ nc) (l : Launch) {a1 : Int32} {a2 : Int32} {a3 : Int32} {I J O : Mem} {r9 : Int32} {Jq : Mem} (hf : fX8_wouldDrift a1 a2 a3 J = some (r9, Jq)) : zb_Ct l g nc yX8_wouldDrift cX8_wouldDrift 4 (some .int) 3 73 [.ref (g.2.2 + 306), .int a1, .int a2, .int a3] (zb_ce g I J O) (some (.int r9)) (zb_ce g I Jq O) := by
  refine zb_ofW (own := RX8) (by decide +kernel) rfl (Nat.le_of_ble_eq_true rfl) ?_
  intro p e s m args below meth c ls X hr hP hl
  have hx := X.1.1
  have hb := X.1.2.1
  have ho := X.1.2.2.2.1
  have hts := X.1.2.2.2.2
  have hZ := X.2.2.2
  have hl : lv_has ls 4 [(0, .ref (g.2.2 + 306)), (1, .int a1), (2, .int a2), (3, .int a3)] := hl
  have hS : va_S (zb_A g) s.heap s.heap [] := va_S.rf
  obtain ⟨H, hH⟩ : ∃ H, H = s.heap := ⟨_, rfl⟩
  obtain ⟨locs, hlocs⟩ : ∃ z : List Loc, z = [] := ⟨_, rfl⟩
  rw [← hH] at hP
  have hS : va_S (zb_A g) s.heap H locs := by rw [hH, hlocs]; exact hS
  show W p l e _ s m args below meth c s.heap [] 0 0 _ _
  rw [← hH, ← hlocs]
  rw [fX8_wouldDrift] at hf
  refine lv_aload_n hx hb dX8_wouldDrift_0 rfl (lv_at hl 0 rfl) ?_
  refine lv_iconst (v := (0 : Int32)) hx hb dX8_wouldDrift_1 (by decide) ?_
  refine pf_X8_57 X hnJ hP hS zk_306 dX8_wouldDrift_2 (fun H locs hP hS => ?_)
  refine lv_aload_n hx hb dX8_wouldDrift_5 rfl (lv_at hl 0 rfl) ?_
  refine lv_iload_n hx hb dX8_wouldDrift_6 rfl (lv_at hl 1 rfl) ?_
  refine lv_iload_n hx hb dX8_wouldDrift_7 rfl (lv_at hl 2 rfl) ?_
  refine lv_iload_n hx hb dX8_wouldDrift_8 rfl (lv_at hl 3 rfl) ?_
  obtain ⟨x1, J2, hx1_J2, hf⟩ := ob2_e hf
  refine zr_cVi (rest := []) (As := [.int a1, .int a2, .int a3]) X hP hS (ct_X8_noStorm (g := g) (nc := nc) (I := I) (J := (wr J 306 0 (0 : Int32))) (O := O) hnJ l  hx1_J2) cw_X8_276 (zr_recv X hP (Nat.lt_of_lt_of_le (zk_306).2.1 hnJ) (zb_ceJo zk_306 (by decide)) rfl) rfl hl.1 (Nat.le_of_ble_eq_true rfl) ⟨Nat.le_of_ble_eq_true rfl, Nat.le_of_ble_eq_true rfl⟩ ⟨Nat.le_of_ble_eq_true rfl, Nat.le_of_ble_eq_true rfl⟩ dX8_wouldDrift_9 rfl (fun H locs hP hS => ?_)
  obtain ⟨x6, ht, hf⟩ := ob_e hf
  have K1 : ∀ (H : Heap) (locs : List Loc) (ls : Array Slot), va_P g.1 vwCl (zb_ws g nc (zb_ce g I J2 O)) H → va_S (zb_A g) s.heap H locs → lv_has ls 4 [] → W p l e { frames := 3, cells := 0, slots := 0, locals := 73 } s m args below meth c H locs 0 0 (MQ below (zb_Po g nc (zb_ce g I Jq O) (some (.int r9))) args s 0 0 (zb_A g)) (F0 m 38 ls [.int x6]) := by
    intro H locs ls hP hS hl
    cases hf
    exact zr_iret X hr hP hS dX8_wouldDrift_38
  have hf := ht
  refine lv_if_eq (tgt := 19) hx hb dX8_wouldDrift_12 (by decide) (fun hc => ?_) (fun hc => ?_)
  · have hf := if_t hc hf
    refine lv_aload_n hx hb dX8_wouldDrift_19 rfl (lv_at hl 0 rfl) ?_
    refine lv_iload_n hx hb dX8_wouldDrift_20 rfl (lv_at hl 1 rfl) ?_
    refine lv_iload_n hx hb dX8_wouldDrift_21 rfl (lv_at hl 2 rfl) ?_
    refine lv_iload_n hx hb dX8_wouldDrift_22 rfl (lv_at hl 3 rfl) ?_
    refine lv_aload_n hx hb dX8_wouldDrift_23 rfl (lv_at hl 0 rfl) ?_
    obtain ⟨x3, hx3, hf⟩ := ob_e hf
    refine zr_cVi (rest := [.int a3, .int a2, .int a1, .ref (g.2.2 + 306)]) (As := []) X hP hS (ct_X8_brokenSet (g := g) (nc := nc) (I := I) (J := J2) (O := O) hnJ l  hx3) cw_X8_249 (zr_recv X hP (Nat.lt_of_lt_of_le (zk_306).2.1 hnJ) (zb_ceJo zk_306 (by decide)) rfl) rfl hl.1 (Nat.le_of_ble_eq_true rfl) ⟨Nat.le_of_ble_eq_true rfl, Nat.le_of_ble_eq_true rfl⟩ ⟨Nat.le_of_ble_eq_true rfl, Nat.le_of_ble_eq_true rfl⟩ dX8_wouldDrift_24 rfl (fun H locs hP hS => ?_)
    refine lv_aload_n hx hb dX8_wouldDrift_27 rfl (lv_at hl 0 rfl) ?_
    refine lv_iload_n hx hb dX8_wouldDrift_28 rfl (lv_at hl 1 rfl) ?_
    refine lv_iload_n hx hb dX8_wouldDrift_29 rfl (lv_at hl 2 rfl) ?_
    refine lv_iload_n hx hb dX8_wouldDrift_30 rfl (lv_at hl 3 rfl) ?_
    obtain ⟨x4, hx4, hf⟩ := ob_e hf
    refine zr_cVi (rest := [.int x3, .int a3, .int a2, .int a1, .ref (g.2.2 + 306)]) (As := [.int a1, .int a2, .int a3]) X hP hS (ct_X8_breaks (g := g) (nc := nc) (I := I) (J := J2) (O := O) hnJ l  hx4) cw_X8_279 (zr_recv X hP (Nat.lt_of_lt_of_le (zk_306).2.1 hnJ) (zb_ceJo zk_306 (by decide)) rfl) rfl hl.1 (Nat.le_of_ble_eq_true rfl) ⟨Nat.le_of_ble_eq_true rfl, Nat.le_of_ble_eq_true rfl⟩ ⟨Nat.le_of_ble_eq_true rfl, Nat.le_of_ble_eq_true rfl⟩ dX8_wouldDrift_31 rfl (fun H locs hP hS => ?_)
    refine lv_ior hx hb dX8_wouldDrift_34 ?_
    obtain ⟨x5, hx5, hf⟩ := ob_e hf
    refine zr_cVi (rest := []) (As := [.int a1, .int a2, .int a3, .int (x3 ||| x4)]) X hP hS (ct_X8_drifts (g := g) (nc := nc) (I := I) (J := J2) (O := O) hnJ l  hx5) cw_X8_283 (zr_recv X hP (Nat.lt_of_lt_of_le (zk_306).2.1 hnJ) (zb_ceJo zk_306 (by decide)) rfl) rfl hl.1 (Nat.le_of_ble_eq_true rfl) ⟨Nat.le_of_ble_eq_true rfl, Nat.le_of_ble_eq_true rfl⟩ ⟨Nat.le_of_ble_eq_true rfl, Nat.le_of_ble_eq_true rfl⟩ dX8_wouldDrift_35 rfl (fun H locs hP hS => ?_)
    cases hf
    exact K1 H locs ls hP hS (lv_sub hl [] rfl)
  · have hf := if_f hc hf
    refine lv_iconst (v := (0 : Int32)) hx hb dX8_wouldDrift_15 (by decide) ?_
    refine lv_goto (tgt := 38) hx hb dX8_wouldDrift_16 (by decide) ?_
    cases hf
    exact K1 H locs ls hP hS (lv_sub hl [] rfl)
set_option maxHeartbeats 4000000 in
set_option maxRecDepth 100000 in
theorem lpX8_leastStorm_L16 {g : zb_G} {nc : Nat} (hnJ : 318 ≤ nc) (l : Launch) {a1 : Int32} {I O : Mem} {p : Program} {e : Env} {s : State} {m : MethodId} {args : Array Value} {below : List Frame} {meth : Method} {c : Code} {Q : State → Prop} (X : zb_X g p m c cX8_leastStorm 3 s args RX8 meth) : ∀ {n9 : Nat} {a2 : Int32} {J : Mem} {tq : Nat} {v9 : Int32} {H : Heap} {locs : List Loc} {ls : Array Slot}, fX8_leastStorm_L16 a1 n9 a2 J = some (tq, v9) → (tq = 0 → ∀ (H : Heap) (locs : List Loc) (ls : Array Slot), va_P g.1 vwCl (zb_ws g nc (zb_ce g I J O)) H → va_S (zb_A g) s.heap H locs → lv_has ls 3 [] → W p l e { frames := 3, cells := 0, slots := 0, locals := 73 } s m args below meth c H locs 0 0 Q (F0 m 52 ls [])) → (tq = 1 → ∀ (H : Heap) (locs : List Loc) (ls : Array Slot) (pc : Nat), decode cX8_leastStorm pc = .ok (.ireturn, 1) → va_P g.1 vwCl (zb_ws g nc (zb_ce g I J O)) H → va_S (zb_A g) s.heap H locs → W p l e { frames := 3, cells := 0, slots := 0, locals := 73 } s m args below meth c H locs 0 0 Q (F0 m pc ls [.int v9])) → va_P g.1 vwCl (zb_ws g nc (zb_ce g I J O)) H → va_S (zb_A g) s.heap H locs → lv_has ls 3 [(2, .int a2), (1, .int a1), (0, .ref (g.2.2 + 306))] → W p l e { frames := 3, cells := 0, slots := 0, locals := 73 } s m args below meth c H locs 0 0 Q (F0 m 16 ls []) := by
  have hx := X.1.1
  have hb := X.1.2.1
  have ho := X.1.2.2.2.1
  have hts := X.1.2.2.2.2
  have hZ := X.2.2.2
  intro n9
  induction n9 with
  | zero =>
    intro a2 J tq v9 H locs ls hf
    exact nomatch hf
  | succ n9 ih =>
    intro a2 J tq v9 H locs ls hf KK K1 hP hS hl
    rw [fX8_leastStorm_L16] at hf
    refine lv_iload_n hx hb dX8_leastStorm_16 rfl (lv_at hl 0 rfl) ?_
    refine lv_bipush (v := (100 : Int32)) hx hb dX8_leastStorm_17 (by decide) ?_
    refine lv_icmp_ge (tgt := 52) hx hb dX8_leastStorm_19 (by decide) (fun hc => ?_) (fun hc => ?_)
    · have hf := if_t hc hf
      cases hf
      exact KK rfl H locs ls hP hS (lv_sub hl [] rfl)
    · have hf := if_f hc hf
      refine lv_aload_n hx hb dX8_leastStorm_22 rfl (lv_at hl 2 rfl) ?_
      refine lv_iload_n hx hb dX8_leastStorm_23 rfl (lv_at hl 0 rfl) ?_
      refine lv_iconst (v := (0 : Int32)) hx hb dX8_leastStorm_24 (by decide) ?_
      refine lv_iload_n hx hb dX8_leastStorm_25 rfl (lv_at hl 1 rfl) ?_
      refine lv_aload_n hx hb dX8_leastStorm_26 rfl (lv_at hl 2 rfl) ?_
      obtain ⟨x2, hx2, hf⟩ := ob_e hf
      refine zr_cVi (rest := [.int a1, .int (0 : Int32), .int a2, .ref (g.2.2 + 306)]) (As := []) X hP hS (ct_X8_brokenSet (g := g) (nc := nc) (I := I) (J := J) (O := O) hnJ l  hx2) cw_X8_249 (zr_recv X hP (Nat.lt_of_lt_of_le (zk_306).2.1 hnJ) (zb_ceJo zk_306 (by decide)) rfl) rfl hl.1 (Nat.le_of_ble_eq_true rfl) ⟨Nat.le_of_ble_eq_true rfl, Nat.le_of_ble_eq_true rfl⟩ ⟨Nat.le_of_ble_eq_true rfl, Nat.le_of_ble_eq_true rfl⟩ dX8_leastStorm_27 rfl (fun H locs hP hS => ?_)
      refine lv_aload_n hx hb dX8_leastStorm_30 rfl (lv_at hl 2 rfl) ?_
      refine lv_iload_n hx hb dX8_leastStorm_31 rfl (lv_at hl 0 rfl) ?_
      refine lv_iconst (v := (0 : Int32)) hx hb dX8_leastStorm_32 (by decide) ?_
      refine lv_iload_n hx hb dX8_leastStorm_33 rfl (lv_at hl 1 rfl) ?_
      obtain ⟨x3, hx3, hf⟩ := ob_e hf
      refine zr_cVi (rest := [.int x2, .int a1, .int (0 : Int32), .int a2, .ref (g.2.2 + 306)]) (As := [.int a2, .int (0 : Int32), .int a1]) X hP hS (ct_X8_breaks (g := g) (nc := nc) (I := I) (J := J) (O := O) hnJ l  hx3) cw_X8_279 (zr_recv X hP (Nat.lt_of_lt_of_le (zk_306).2.1 hnJ) (zb_ceJo zk_306 (by decide)) rfl) rfl hl.1 (Nat.le_of_ble_eq_true rfl) ⟨Nat.le_of_ble_eq_true rfl, Nat.le_of_ble_eq_true rfl⟩ ⟨Nat.le_of_ble_eq_true rfl, Nat.le_of_ble_eq_true rfl⟩ dX8_leastStorm_34 rfl (fun H locs hP hS => ?_)
      refine lv_ior hx hb dX8_leastStorm_37 ?_
      obtain ⟨x4, hx4, hf⟩ := ob_e hf
      refine zr_cVi (rest := []) (As := [.int a2, .int (0 : Int32), .int a1, .int (x2 ||| x3)]) X hP hS (ct_X8_drifts (g := g) (nc := nc) (I := I) (J := J) (O := O) hnJ l  hx4) cw_X8_283 (zr_recv X hP (Nat.lt_of_lt_of_le (zk_306).2.1 hnJ) (zb_ceJo zk_306 (by decide)) rfl) rfl hl.1 (Nat.le_of_ble_eq_true rfl) ⟨Nat.le_of_ble_eq_true rfl, Nat.le_of_ble_eq_true rfl⟩ ⟨Nat.le_of_ble_eq_true rfl, Nat.le_of_ble_eq_true rfl⟩ dX8_leastStorm_38 rfl (fun H locs hP hS => ?_)
      refine lv_if_eq (tgt := 46) hx hb dX8_leastStorm_41 (by decide) (fun hc => ?_) (fun hc => ?_)
      · have hf := if_t hc hf
        refine lv_iinc (v := (a2 + (1 : Int32))) (lv' := [(2, .int (a2 + (1 : Int32))), (1, .int a1), (0, .ref (g.2.2 + 306))]) hx hb dX8_leastStorm_46 hl (k := 0) rfl rfl (by decide) rfl (fun ls hl => ?_)
        refine lv_goto (tgt := 16) hx hb dX8_leastStorm_49 (by decide) ?_
        exact ih hf KK K1 hP hS (lv_sub hl [0, 1, 2] rfl)
      · have hf := if_f hc hf
        refine lv_iload_n hx hb dX8_leastStorm_44 rfl (lv_at hl 0 rfl) ?_
        cases hf
        exact K1 rfl H locs ls 45 dX8_leastStorm_45 hP hS
set_option maxHeartbeats 4000000 in
set_option maxRecDepth 100000 in
theorem ct_X8_leastStorm {g : zb_G} {nc : Nat} (hnJ : 318 ≤ nc) (l : Launch) {I J O : Mem} {r9 : Int32} {Jq : Mem} (hf : fX8_leastStorm J = some (r9, Jq)) : zb_Ct l g nc yX8_leastStorm cX8_leastStorm 3 (some .int) 3 73 [.ref (g.2.2 + 306)] (zb_ce g I J O) (some (.int r9)) (zb_ce g I Jq O) := by
  refine zb_ofW (own := RX8) (by decide +kernel) rfl (Nat.le_of_ble_eq_true rfl) ?_
  intro p e s m args below meth c ls X hr hP hl
  have hx := X.1.1
  have hb := X.1.2.1
  have ho := X.1.2.2.2.1
  have hts := X.1.2.2.2.2
  have hZ := X.2.2.2
  have hl : lv_has ls 3 [(0, .ref (g.2.2 + 306))] := hl
  have hS : va_S (zb_A g) s.heap s.heap [] := va_S.rf
  obtain ⟨H, hH⟩ : ∃ H, H = s.heap := ⟨_, rfl⟩
  obtain ⟨locs, hlocs⟩ : ∃ z : List Loc, z = [] := ⟨_, rfl⟩
  rw [← hH] at hP
  have hS : va_S (zb_A g) s.heap H locs := by rw [hH, hlocs]; exact hS
  show W p l e _ s m args below meth c s.heap [] 0 0 _ _
  rw [← hH, ← hlocs]
  rw [fX8_leastStorm] at hf
  refine lv_aload_n hx hb dX8_leastStorm_0 rfl (lv_at hl 0 rfl) ?_
  refine lv_iconst (v := (0 : Int32)) hx hb dX8_leastStorm_1 (by decide) ?_
  refine pf_X8_57 X hnJ hP hS zk_306 dX8_leastStorm_2 (fun H locs hP hS => ?_)
  refine lv_aload_n hx hb dX8_leastStorm_5 rfl (lv_at hl 0 rfl) ?_
  refine gf_X8_7 X hnJ hP zk_306 dX8_leastStorm_6 ?_
  refine lv_iconst (v := (0 : Int32)) hx hb dX8_leastStorm_9 (by decide) ?_
  obtain ⟨x1, hx1, hf⟩ := ob_e hf
  refine zr_aldJ X hP hnJ zk_307 hx1 dX8_leastStorm_10 ?_
  refine lv_iconst (v := (1 : Int32)) hx hb dX8_leastStorm_11 (by decide) ?_
  refine lv_isub hx hb dX8_leastStorm_12 ?_
  refine lv_istore_n (lv' := [(1, .int (x1 - (1 : Int32))), (0, .ref (g.2.2 + 306))]) hx hb dX8_leastStorm_13 rfl hl (by decide) rfl (fun ls hl => ?_)
  refine lv_iconst (v := (1 : Int32)) hx hb dX8_leastStorm_14 (by decide) ?_
  refine lv_istore_n (lv' := [(2, .int (1 : Int32)), (1, .int (x1 - (1 : Int32))), (0, .ref (g.2.2 + 306))]) hx hb dX8_leastStorm_15 rfl hl (by decide) rfl (fun ls hl => ?_)
  obtain ⟨t5, x6, ht5_x6, hf⟩ := ob2_e hf
  have K1 : t5 = 0 → ∀ (H : Heap) (locs : List Loc) (ls : Array Slot), va_P g.1 vwCl (zb_ws g nc (zb_ce g I (wr J 306 0 (0 : Int32)) O)) H → va_S (zb_A g) s.heap H locs → lv_has ls 3 [] → W p l e { frames := 3, cells := 0, slots := 0, locals := 73 } s m args below meth c H locs 0 0 (MQ below (zb_Po g nc (zb_ce g I Jq O) (some (.int r9))) args s 0 0 (zb_A g)) (F0 m 52 ls []) := by
    intro he H locs ls hP hS hl
    have hf := if_f (by rw [he]; decide) hf
    refine lv_iconst (v := (-1 : Int32)) hx hb dX8_leastStorm_52 (by decide) ?_
    cases hf
    exact zr_iret X hr hP hS dX8_leastStorm_53
  have K2 : t5 = 1 → ∀ (H : Heap) (locs : List Loc) (ls : Array Slot) (pc : Nat), decode cX8_leastStorm pc = .ok (.ireturn, 1) → va_P g.1 vwCl (zb_ws g nc (zb_ce g I (wr J 306 0 (0 : Int32)) O)) H → va_S (zb_A g) s.heap H locs → W p l e { frames := 3, cells := 0, slots := 0, locals := 73 } s m args below meth c H locs 0 0 (MQ below (zb_Po g nc (zb_ce g I Jq O) (some (.int r9))) args s 0 0 (zb_A g)) (F0 m pc ls [.int x6]) := by
    intro he H locs ls pc hd hP hS
    have hf := if_t he hf
    cases hf
    exact zr_iret X hr hP hS hd
  exact lpX8_leastStorm_L16 hnJ l  X ht5_x6 K1 K2 hP hS (lv_sub hl [0, 1, 2] rfl)
set_option maxHeartbeats 4000000 in
set_option maxRecDepth 100000 in
theorem lpX8_lacking_L5 {g : zb_G} {nc : Nat} (hnJ : 318 ≤ nc) (l : Launch) {a1 : Int32} {a2 : Int32} {I O : Mem} {p : Program} {e : Env} {s : State} {m : MethodId} {args : Array Value} {below : List Frame} {meth : Method} {c : Code} {Q : State → Prop} (X : zb_X g p m c cX8_lacking 6 s args RX8 meth) : ∀ {n9 : Nat} {a4 : Int32} {a3 : Int32} {J : Mem} {z3 : Int32} {H : Heap} {locs : List Loc} {ls : Array Slot}, fX8_lacking_L5 a1 a2 n9 a4 a3 J = some z3 → (∀ (H : Heap) (locs : List Loc) (ls : Array Slot), va_P g.1 vwCl (zb_ws g nc (zb_ce g I J O)) H → va_S (zb_A g) s.heap H locs → lv_has ls 6 [(3, .int z3)] → W p l e { frames := 2, cells := 0, slots := 0, locals := 44 } s m args below meth c H locs 0 0 Q (F0 m 60 ls [])) → va_P g.1 vwCl (zb_ws g nc (zb_ce g I J O)) H → va_S (zb_A g) s.heap H locs → lv_has ls 6 [(4, .int a4), (3, .int a3), (0, .ref (g.2.2 + 306)), (1, .int a1), (2, .int a2)] → W p l e { frames := 2, cells := 0, slots := 0, locals := 44 } s m args below meth c H locs 0 0 Q (F0 m 5 ls []) := by
  have hx := X.1.1
  have hb := X.1.2.1
  have ho := X.1.2.2.2.1
  have hts := X.1.2.2.2.2
  have hZ := X.2.2.2
  intro n9
  induction n9 with
  | zero =>
    intro a4 a3 J z3 H locs ls hf
    exact nomatch hf
  | succ n9 ih =>
    intro a4 a3 J z3 H locs ls hf KK hP hS hl
    rw [fX8_lacking_L5] at hf
    refine lv_iload hx hb dX8_lacking_5 (lv_at hl 0 rfl) ?_
    refine lv_aload_n hx hb dX8_lacking_7 rfl (lv_at hl 2 rfl) ?_
    refine gf_X8_7 X hnJ hP zk_306 dX8_lacking_8 ?_
    refine lv_iconst (v := (0 : Int32)) hx hb dX8_lacking_11 (by decide) ?_
    obtain ⟨x1, hx1, hf⟩ := ob_e hf
    refine zr_aldJ X hP hnJ zk_307 hx1 dX8_lacking_12 ?_
    refine lv_icmp_ge (tgt := 60) hx hb dX8_lacking_13 (by decide) (fun hc => ?_) (fun hc => ?_)
    · have hf := if_t hc hf
      cases hf
      exact KK H locs ls hP hS (lv_sub hl [1] rfl)
    · have hf := if_f hc hf
      refine lv_aload_n hx hb dX8_lacking_16 rfl (lv_at hl 2 rfl) ?_
      refine lv_iload hx hb dX8_lacking_17 (lv_at hl 0 rfl) ?_
      refine lv_iload_n hx hb dX8_lacking_19 rfl (lv_at hl 4 rfl) ?_
      obtain ⟨x2, hx2, hf⟩ := ob_e hf
      refine zr_cVi (rest := []) (As := [.int a4, .int a2]) X hP hS (ct_X8_lastOf (g := g) (nc := nc) (I := I) (J := J) (O := O) hnJ l  hx2) cw_X8_267 (zr_recv X hP (Nat.lt_of_lt_of_le (zk_306).2.1 hnJ) (zb_ceJo zk_306 (by decide)) rfl) rfl hl.1 (Nat.le_of_ble_eq_true rfl) ⟨Nat.le_of_ble_eq_true rfl, Nat.le_of_ble_eq_true rfl⟩ ⟨Nat.le_of_ble_eq_true rfl, Nat.le_of_ble_eq_true rfl⟩ dX8_lacking_20 rfl (fun H locs hP hS => ?_)
      refine lv_istore (lv' := [(5, .int x2), (4, .int a4), (3, .int a3), (0, .ref (g.2.2 + 306)), (1, .int a1), (2, .int a2)]) hx hb dX8_lacking_23 hl (by decide) rfl (fun ls hl => ?_)
      refine lv_iload_n hx hb dX8_lacking_25 rfl (lv_at hl 2 rfl) ?_
      refine lv_iconst (v := (0 : Int32)) hx hb dX8_lacking_26 (by decide) ?_
      refine lv_iload_n hx hb dX8_lacking_27 rfl (lv_at hl 4 rfl) ?_
      refine lv_iload hx hb dX8_lacking_28 (lv_at hl 0 rfl) ?_
      refine lv_iload hx hb dX8_lacking_30 (lv_at hl 1 rfl) ?_
      refine lv_isub hx hb dX8_lacking_32 ?_
      refine lv_iconst (v := (1 : Int32)) hx hb dX8_lacking_33 (by decide) ?_
      refine lv_iadd hx hb dX8_lacking_34 ?_
      refine lv_imul hx hb dX8_lacking_35 ?_
      refine lv_aload_n hx hb dX8_lacking_36 rfl (lv_at hl 3 rfl) ?_
      refine lv_iload hx hb dX8_lacking_37 (lv_at hl 1 rfl) ?_
      refine lv_iload hx hb dX8_lacking_39 (lv_at hl 0 rfl) ?_
      obtain ⟨x3, hx3, hf⟩ := ob_e hf
      refine zr_cVi (rest := [.int (a1 * ((x2 - a4) + (1 : Int32))), .int (0 : Int32), .int a3]) (As := [.int a4, .int x2]) X hP hS (ct_X8_holds (g := g) (nc := nc) (I := I) (J := J) (O := O) hnJ l  hx3) cw_X8_273 (zr_recv X hP (Nat.lt_of_lt_of_le (zk_306).2.1 hnJ) (zb_ceJo zk_306 (by decide)) rfl) rfl hl.1 (Nat.le_of_ble_eq_true rfl) ⟨Nat.le_of_ble_eq_true rfl, Nat.le_of_ble_eq_true rfl⟩ ⟨Nat.le_of_ble_eq_true rfl, Nat.le_of_ble_eq_true rfl⟩ dX8_lacking_41 rfl (fun H locs hP hS => ?_)
      refine lv_isub hx hb dX8_lacking_44 ?_
      refine zr_max X wk_X8_287 wm_max1 wm_max2 wm_max3 hl.1 (Nat.le_of_ble_eq_true rfl) (Nat.le_of_ble_eq_true rfl) ⟨Nat.le_of_ble_eq_true rfl, Nat.le_of_ble_eq_true rfl⟩ dX8_lacking_45 ?_
      refine lv_iadd hx hb dX8_lacking_48 ?_
      refine lv_istore_n (lv' := [(3, .int (a3 + (imax (0 : Int32) ((a1 * ((x2 - a4) + (1 : Int32))) - x3)))), (5, .int x2), (4, .int a4), (0, .ref (g.2.2 + 306)), (1, .int a1), (2, .int a2)]) hx hb dX8_lacking_49 rfl hl (by decide) rfl (fun ls hl => ?_)
      refine lv_iload hx hb dX8_lacking_50 (lv_at hl 1 rfl) ?_
      refine lv_istore (lv' := [(4, .int x2), (3, .int (a3 + (imax (0 : Int32) ((a1 * ((x2 - a4) + (1 : Int32))) - x3)))), (5, .int x2), (0, .ref (g.2.2 + 306)), (1, .int a1), (2, .int a2)]) hx hb dX8_lacking_52 hl (by decide) rfl (fun ls hl => ?_)
      refine lv_iinc (v := (x2 + (1 : Int32))) (lv' := [(4, .int (x2 + (1 : Int32))), (3, .int (a3 + (imax (0 : Int32) ((a1 * ((x2 - a4) + (1 : Int32))) - x3)))), (5, .int x2), (0, .ref (g.2.2 + 306)), (1, .int a1), (2, .int a2)]) hx hb dX8_lacking_54 hl (k := 0) rfl rfl (by decide) rfl (fun ls hl => ?_)
      refine lv_goto (tgt := 5) hx hb dX8_lacking_57 (by decide) ?_
      exact ih hf KK hP hS (lv_sub hl [0, 1, 3, 4, 5] rfl)
set_option maxHeartbeats 4000000 in
set_option maxRecDepth 100000 in
theorem ct_X8_lacking {g : zb_G} {nc : Nat} (hnJ : 318 ≤ nc) (l : Launch) {a1 : Int32} {a2 : Int32} {I J O : Mem} {r9 : Int32} (hf : fX8_lacking a1 a2 J = some r9) : zb_Ct l g nc yX8_lacking cX8_lacking 6 (some .int) 2 44 [.ref (g.2.2 + 306), .int a1, .int a2] (zb_ce g I J O) (some (.int r9)) (zb_ce g I J O) := by
  refine zb_ofW (own := RX8) (by decide +kernel) rfl (Nat.le_of_ble_eq_true rfl) ?_
  intro p e s m args below meth c ls X hr hP hl
  have hx := X.1.1
  have hb := X.1.2.1
  have ho := X.1.2.2.2.1
  have hts := X.1.2.2.2.2
  have hZ := X.2.2.2
  have hl : lv_has ls 6 [(0, .ref (g.2.2 + 306)), (1, .int a1), (2, .int a2)] := hl
  have hS : va_S (zb_A g) s.heap s.heap [] := va_S.rf
  obtain ⟨H, hH⟩ : ∃ H, H = s.heap := ⟨_, rfl⟩
  obtain ⟨locs, hlocs⟩ : ∃ z : List Loc, z = [] := ⟨_, rfl⟩
  rw [← hH] at hP
  have hS : va_S (zb_A g) s.heap H locs := by rw [hH, hlocs]; exact hS
  show W p l e _ s m args below meth c s.heap [] 0 0 _ _
  rw [← hH, ← hlocs]
  rw [fX8_lacking] at hf
  refine lv_iconst (v := (0 : Int32)) hx hb dX8_lacking_0 (by decide) ?_
  refine lv_istore_n (lv' := [(3, .int (0 : Int32)), (0, .ref (g.2.2 + 306)), (1, .int a1), (2, .int a2)]) hx hb dX8_lacking_1 rfl hl (by decide) rfl (fun ls hl => ?_)
  refine lv_iconst (v := (0 : Int32)) hx hb dX8_lacking_2 (by decide) ?_
  refine lv_istore (lv' := [(4, .int (0 : Int32)), (3, .int (0 : Int32)), (0, .ref (g.2.2 + 306)), (1, .int a1), (2, .int a2)]) hx hb dX8_lacking_3 hl (by decide) rfl (fun ls hl => ?_)
  obtain ⟨x4, hx4, hf⟩ := ob_e hf
  have K1 : ∀ (H : Heap) (locs : List Loc) (ls : Array Slot), va_P g.1 vwCl (zb_ws g nc (zb_ce g I J O)) H → va_S (zb_A g) s.heap H locs → lv_has ls 6 [(3, .int x4)] → W p l e { frames := 2, cells := 0, slots := 0, locals := 44 } s m args below meth c H locs 0 0 (MQ below (zb_Po g nc (zb_ce g I J O) (some (.int r9))) args s 0 0 (zb_A g)) (F0 m 60 ls []) := by
    intro H locs ls hP hS hl
    refine lv_iload_n hx hb dX8_lacking_60 rfl (lv_at hl 0 rfl) ?_
    cases hf
    exact zr_iret X hr hP hS dX8_lacking_61
  exact lpX8_lacking_L5 hnJ l  X hx4 K1 hP hS (lv_sub hl [0, 1, 2, 3, 4] rfl)
set_option maxHeartbeats 4000000 in
set_option maxRecDepth 100000 in
theorem ct_X8_noForce {g : zb_G} {nc : Nat} (hnJ : 318 ≤ nc) (l : Launch) {a1 : Int32} {I J O : Mem} {r9 : Int32} {Jq : Mem} (hf : fX8_noForce a1 J = some (r9, Jq)) : zb_Ct l g nc yX8_noForce cX8_noForce 2 (some .boolean) 1 22 [.ref (g.2.2 + 306), .int a1] (zb_ce g I J O) (some (.int r9)) (zb_ce g I Jq O) := by
  refine zb_ofW (own := RX8) (by decide +kernel) rfl (Nat.le_of_ble_eq_true rfl) ?_
  intro p e s m args below meth c ls X hr hP hl
  have hx := X.1.1
  have hb := X.1.2.1
  have ho := X.1.2.2.2.1
  have hts := X.1.2.2.2.2
  have hZ := X.2.2.2
  have hl : lv_has ls 2 [(0, .ref (g.2.2 + 306)), (1, .int a1)] := hl
  have hS : va_S (zb_A g) s.heap s.heap [] := va_S.rf
  obtain ⟨H, hH⟩ : ∃ H, H = s.heap := ⟨_, rfl⟩
  obtain ⟨locs, hlocs⟩ : ∃ z : List Loc, z = [] := ⟨_, rfl⟩
  rw [← hH] at hP
  have hS : va_S (zb_A g) s.heap H locs := by rw [hH, hlocs]; exact hS
  show W p l e _ s m args below meth c s.heap [] 0 0 _ _
  rw [← hH, ← hlocs]
  rw [fX8_noForce] at hf
  refine lv_aload_n hx hb dX8_noForce_0 rfl (lv_at hl 0 rfl) ?_
  refine lv_iconst (v := (0 : Int32)) hx hb dX8_noForce_1 (by decide) ?_
  refine pf_X8_57 X hnJ hP hS zk_306 dX8_noForce_2 (fun H locs hP hS => ?_)
  refine lv_aload_n hx hb dX8_noForce_5 rfl (lv_at hl 0 rfl) ?_
  refine lv_iload_n hx hb dX8_noForce_6 rfl (lv_at hl 1 rfl) ?_
  refine lv_iconst (v := (1 : Int32)) hx hb dX8_noForce_7 (by decide) ?_
  refine lv_bipush (v := (99 : Int32)) hx hb dX8_noForce_8 (by decide) ?_
  obtain ⟨x1, hx1, hf⟩ := ob_e hf
  refine zr_cSi (rest := [.ref (g.2.2 + 306)]) (As := [.int a1, .int (1 : Int32), .int (99 : Int32)]) X hP hS (ct_X8_within (g := g) (nc := nc) (I := I) (J := (wr J 306 0 (0 : Int32))) (O := O)  l  hx1) cw_X8_60  rfl hl.1 (Nat.le_of_ble_eq_true rfl) ⟨Nat.le_of_ble_eq_true rfl, Nat.le_of_ble_eq_true rfl⟩ ⟨Nat.le_of_ble_eq_true rfl, Nat.le_of_ble_eq_true rfl⟩ dX8_noForce_10 rfl (fun H locs hP hS => ?_)
  obtain ⟨x2, ht, hf⟩ := pl_e hf
  have K1 : ∀ (H : Heap) (locs : List Loc) (ls : Array Slot), va_P g.1 vwCl (zb_ws g nc (zb_ce g I (wr J 306 0 (0 : Int32)) O)) H → va_S (zb_A g) s.heap H locs → lv_has ls 2 [] → W p l e { frames := 1, cells := 0, slots := 0, locals := 22 } s m args below meth c H locs 0 0 (MQ below (zb_Po g nc (zb_ce g I Jq O) (some (.int r9))) args s 0 0 (zb_A g)) (F0 m 21 ls [.int x2, .ref (g.2.2 + 306)]) := by
    intro H locs ls hP hS hl
    refine lv_iconst (v := (1 : Int32)) hx hb dX8_noForce_21 (by decide) ?_
    obtain ⟨x3, J4, hx3_J4, hf⟩ := ob2_e hf
    refine zr_cVi (rest := []) (As := [.int x2, .int (1 : Int32)]) X hP hS (ct_X8_throwsIf (g := g) (nc := nc) (I := I) (J := (wr J 306 0 (0 : Int32))) (O := O) hnJ l  hx3_J4) cw_X8_64 (zr_recv X hP (Nat.lt_of_lt_of_le (zk_306).2.1 hnJ) (zb_ceJo zk_306 (by decide)) rfl) rfl hl.1 (Nat.le_of_ble_eq_true rfl) ⟨Nat.le_of_ble_eq_true rfl, Nat.le_of_ble_eq_true rfl⟩ ⟨Nat.le_of_ble_eq_true rfl, Nat.le_of_ble_eq_true rfl⟩ dX8_noForce_22 rfl (fun H locs hP hS => ?_)
    obtain ⟨v9, hv9, hf⟩ := ob_e hf
    obtain ⟨hn9, he9⟩ := zbo_e hv9
    cases hf
    cases he9
    exact zr_zret X hr hn9 hP hS dX8_noForce_25
  have hf := ht
  refine lv_if_ne (tgt := 20) hx hb dX8_noForce_13 (by decide) (fun hc => ?_) (fun hc => ?_)
  · have hf := if_f hc hf
    refine lv_iconst (v := (0 : Int32)) hx hb dX8_noForce_20 (by decide) ?_
    cases hf
    exact K1 H locs ls hP hS (lv_sub hl [] rfl)
  · have hf := if_t hc hf
    refine lv_iconst (v := (1 : Int32)) hx hb dX8_noForce_16 (by decide) ?_
    refine lv_goto (tgt := 21) hx hb dX8_noForce_17 (by decide) ?_
    cases hf
    exact K1 H locs ls hP hS (lv_sub hl [] rfl)
set_option maxHeartbeats 4000000 in
set_option maxRecDepth 100000 in
theorem ct_X8_lacks {g : zb_G} {nc : Nat} (hnJ : 318 ≤ nc) (l : Launch) {a1 : Int32} {I J O : Mem} {r9 : Int32} {Jq : Mem} (hf : fX8_lacks a1 J = some (r9, Jq)) : zb_Ct l g nc yX8_lacks cX8_lacks 2 (some .int) 3 69 [.ref (g.2.2 + 306), .int a1] (zb_ce g I J O) (some (.int r9)) (zb_ce g I Jq O) := by
  refine zb_ofW (own := RX8) (by decide +kernel) rfl (Nat.le_of_ble_eq_true rfl) ?_
  intro p e s m args below meth c ls X hr hP hl
  have hx := X.1.1
  have hb := X.1.2.1
  have ho := X.1.2.2.2.1
  have hts := X.1.2.2.2.2
  have hZ := X.2.2.2
  have hl : lv_has ls 2 [(0, .ref (g.2.2 + 306)), (1, .int a1)] := hl
  have hS : va_S (zb_A g) s.heap s.heap [] := va_S.rf
  obtain ⟨H, hH⟩ : ∃ H, H = s.heap := ⟨_, rfl⟩
  obtain ⟨locs, hlocs⟩ : ∃ z : List Loc, z = [] := ⟨_, rfl⟩
  rw [← hH] at hP
  have hS : va_S (zb_A g) s.heap H locs := by rw [hH, hlocs]; exact hS
  show W p l e _ s m args below meth c s.heap [] 0 0 _ _
  rw [← hH, ← hlocs]
  rw [fX8_lacks] at hf
  refine lv_aload_n hx hb dX8_lacks_0 rfl (lv_at hl 0 rfl) ?_
  refine lv_iload_n hx hb dX8_lacks_1 rfl (lv_at hl 1 rfl) ?_
  obtain ⟨x1, J2, hx1_J2, hf⟩ := ob2_e hf
  refine zr_cVi (rest := []) (As := [.int a1]) X hP hS (ct_X8_noForce (g := g) (nc := nc) (I := I) (J := J) (O := O) hnJ l  hx1_J2) cw_X8_292 (zr_recv X hP (Nat.lt_of_lt_of_le (zk_306).2.1 hnJ) (zb_ceJo zk_306 (by decide)) rfl) rfl hl.1 (Nat.le_of_ble_eq_true rfl) ⟨Nat.le_of_ble_eq_true rfl, Nat.le_of_ble_eq_true rfl⟩ ⟨Nat.le_of_ble_eq_true rfl, Nat.le_of_ble_eq_true rfl⟩ dX8_lacks_2 rfl (fun H locs hP hS => ?_)
  obtain ⟨x5, ht, hf⟩ := ob_e hf
  have K1 : ∀ (H : Heap) (locs : List Loc) (ls : Array Slot), va_P g.1 vwCl (zb_ws g nc (zb_ce g I J2 O)) H → va_S (zb_A g) s.heap H locs → lv_has ls 2 [] → W p l e { frames := 3, cells := 0, slots := 0, locals := 69 } s m args below meth c H locs 0 0 (MQ below (zb_Po g nc (zb_ce g I Jq O) (some (.int r9))) args s 0 0 (zb_A g)) (F0 m 21 ls [.int x5]) := by
    intro H locs ls hP hS hl
    cases hf
    exact zr_iret X hr hP hS dX8_lacks_21
  have hf := ht
  refine lv_if_eq (tgt := 12) hx hb dX8_lacks_5 (by decide) (fun hc => ?_) (fun hc => ?_)
  · have hf := if_t hc hf
    refine lv_aload_n hx hb dX8_lacks_12 rfl (lv_at hl 0 rfl) ?_
    refine lv_iload_n hx hb dX8_lacks_13 rfl (lv_at hl 1 rfl) ?_
    refine lv_aload_n hx hb dX8_lacks_14 rfl (lv_at hl 0 rfl) ?_
    obtain ⟨x3, hx3, hf⟩ := ob_e hf
    refine zr_cVi (rest := [.int a1, .ref (g.2.2 + 306)]) (As := []) X hP hS (ct_X8_brokenSet (g := g) (nc := nc) (I := I) (J := J2) (O := O) hnJ l  hx3) cw_X8_249 (zr_recv X hP (Nat.lt_of_lt_of_le (zk_306).2.1 hnJ) (zb_ceJo zk_306 (by decide)) rfl) rfl hl.1 (Nat.le_of_ble_eq_true rfl) ⟨Nat.le_of_ble_eq_true rfl, Nat.le_of_ble_eq_true rfl⟩ ⟨Nat.le_of_ble_eq_true rfl, Nat.le_of_ble_eq_true rfl⟩ dX8_lacks_15 rfl (fun H locs hP hS => ?_)
    obtain ⟨x4, hx4, hf⟩ := ob_e hf
    refine zr_cVi (rest := []) (As := [.int a1, .int x3]) X hP hS (ct_X8_lacking (g := g) (nc := nc) (I := I) (J := J2) (O := O) hnJ l  hx4) cw_X8_295 (zr_recv X hP (Nat.lt_of_lt_of_le (zk_306).2.1 hnJ) (zb_ceJo zk_306 (by decide)) rfl) rfl hl.1 (Nat.le_of_ble_eq_true rfl) ⟨Nat.le_of_ble_eq_true rfl, Nat.le_of_ble_eq_true rfl⟩ ⟨Nat.le_of_ble_eq_true rfl, Nat.le_of_ble_eq_true rfl⟩ dX8_lacks_18 rfl (fun H locs hP hS => ?_)
    cases hf
    exact K1 H locs ls hP hS (lv_sub hl [] rfl)
  · have hf := if_f hc hf
    refine lv_iconst (v := (0 : Int32)) hx hb dX8_lacks_8 (by decide) ?_
    refine lv_goto (tgt := 21) hx hb dX8_lacks_9 (by decide) ?_
    cases hf
    exact K1 H locs ls hP hS (lv_sub hl [] rfl)
set_option maxHeartbeats 4000000 in
set_option maxRecDepth 100000 in
theorem lpX8_lengths_L4 {g : zb_G} {nc : Nat} (hnJ : 318 ≤ nc) (l : Launch) {a1 : Int32} {I O : Mem} {p : Program} {e : Env} {s : State} {m : MethodId} {args : Array Value} {below : List Frame} {meth : Method} {c : Code} {Q : State → Prop} (X : zb_X g p m c cX8_lengths 4 s args RX8 meth) : ∀ {n9 : Nat} {a3 : Int32} {a2 : Int32} {J : Mem} {z2 : Int32} {H : Heap} {locs : List Loc} {ls : Array Slot}, fX8_lengths_L4 a1 n9 a3 a2 J = some z2 → (∀ (H : Heap) (locs : List Loc) (ls : Array Slot), va_P g.1 vwCl (zb_ws g nc (zb_ce g I J O)) H → va_S (zb_A g) s.heap H locs → lv_has ls 4 [(2, .int z2)] → W p l e { frames := 1, cells := 0, slots := 0, locals := 21 } s m args below meth c H locs 0 0 Q (F0 m 36 ls [])) → va_P g.1 vwCl (zb_ws g nc (zb_ce g I J O)) H → va_S (zb_A g) s.heap H locs → lv_has ls 4 [(3, .int a3), (2, .int a2), (0, .ref (g.2.2 + 306)), (1, .int a1)] → W p l e { frames := 1, cells := 0, slots := 0, locals := 21 } s m args below meth c H locs 0 0 Q (F0 m 4 ls []) := by
  have hx := X.1.1
  have hb := X.1.2.1
  have ho := X.1.2.2.2.1
  have hts := X.1.2.2.2.2
  have hZ := X.2.2.2
  intro n9
  induction n9 with
  | zero =>
    intro a3 a2 J z2 H locs ls hf
    exact nomatch hf
  | succ n9 ih =>
    intro a3 a2 J z2 H locs ls hf KK hP hS hl
    rw [fX8_lengths_L4] at hf
    refine lv_iload_n hx hb dX8_lengths_4 rfl (lv_at hl 0 rfl) ?_
    refine lv_bipush (v := (9 : Int32)) hx hb dX8_lengths_5 (by decide) ?_
    refine lv_icmp_ge (tgt := 36) hx hb dX8_lengths_7 (by decide) (fun hc => ?_) (fun hc => ?_)
    · have hf := if_t hc hf
      cases hf
      exact KK H locs ls hP hS (lv_sub hl [1] rfl)
    · have hf := if_f hc hf
      refine lv_iload_n hx hb dX8_lengths_10 rfl (lv_at hl 1 rfl) ?_
      refine lv_iload_n hx hb dX8_lengths_11 rfl (lv_at hl 3 rfl) ?_
      refine lv_iload_n hx hb dX8_lengths_12 rfl (lv_at hl 0 rfl) ?_
      obtain ⟨x1, hx1, hf⟩ := ob_e hf
      refine zr_cSi (rest := [.int a2]) (As := [.int a1, .int a3]) X hP hS (ct_X8_has (g := g) (nc := nc) (I := I) (J := J) (O := O)  l  hx1) cw_X8_176  rfl hl.1 (Nat.le_of_ble_eq_true rfl) ⟨Nat.le_of_ble_eq_true rfl, Nat.le_of_ble_eq_true rfl⟩ ⟨Nat.le_of_ble_eq_true rfl, Nat.le_of_ble_eq_true rfl⟩ dX8_lengths_13 rfl (fun H locs hP hS => ?_)
      obtain ⟨x3, ht, hf⟩ := ob_e hf
      have K1 : ∀ (H : Heap) (locs : List Loc) (ls : Array Slot), va_P g.1 vwCl (zb_ws g nc (zb_ce g I J O)) H → va_S (zb_A g) s.heap H locs → lv_has ls 4 [(3, .int a3), (0, .ref (g.2.2 + 306)), (1, .int a1)] → W p l e { frames := 1, cells := 0, slots := 0, locals := 21 } s m args below meth c H locs 0 0 Q (F0 m 28 ls [.int x3, .int a2]) := by
        intro H locs ls hP hS hl
        refine lv_iadd hx hb dX8_lengths_28 ?_
        refine lv_istore_n (lv' := [(2, .int (a2 + x3)), (3, .int a3), (0, .ref (g.2.2 + 306)), (1, .int a1)]) hx hb dX8_lengths_29 rfl hl (by decide) rfl (fun ls hl => ?_)
        refine lv_iinc (v := (a3 + (1 : Int32))) (lv' := [(3, .int (a3 + (1 : Int32))), (2, .int (a2 + x3)), (0, .ref (g.2.2 + 306)), (1, .int a1)]) hx hb dX8_lengths_30 hl (k := 1) rfl rfl (by decide) rfl (fun ls hl => ?_)
        refine lv_goto (tgt := 4) hx hb dX8_lengths_33 (by decide) ?_
        exact ih hf KK hP hS (lv_sub hl [0, 1, 2, 3] rfl)
      have hf := ht
      refine lv_if_eq (tgt := 27) hx hb dX8_lengths_16 (by decide) (fun hc => ?_) (fun hc => ?_)
      · have hf := if_t hc hf
        refine lv_iconst (v := (0 : Int32)) hx hb dX8_lengths_27 (by decide) ?_
        cases hf
        exact K1 H locs ls hP hS (lv_sub hl [0, 2, 3] rfl)
      · have hf := if_f hc hf
        refine lv_aload_n hx hb dX8_lengths_19 rfl (lv_at hl 2 rfl) ?_
        refine lv_iload_n hx hb dX8_lengths_20 rfl (lv_at hl 0 rfl) ?_
        obtain ⟨x2, hx2, hf⟩ := ob_e hf
        refine zr_cVi (rest := [.int a2]) (As := [.int a3]) X hP hS (ct_X8_long0 (g := g) (nc := nc) (I := I) (J := J) (O := O) hnJ l  hx2) cw_X8_261 (zr_recv X hP (Nat.lt_of_lt_of_le (zk_306).2.1 hnJ) (zb_ceJo zk_306 (by decide)) rfl) rfl hl.1 (Nat.le_of_ble_eq_true rfl) ⟨Nat.le_of_ble_eq_true rfl, Nat.le_of_ble_eq_true rfl⟩ ⟨Nat.le_of_ble_eq_true rfl, Nat.le_of_ble_eq_true rfl⟩ dX8_lengths_21 rfl (fun H locs hP hS => ?_)
        refine lv_goto (tgt := 28) hx hb dX8_lengths_24 (by decide) ?_
        cases hf
        exact K1 H locs ls hP hS (lv_sub hl [0, 2, 3] rfl)
set_option maxHeartbeats 4000000 in
set_option maxRecDepth 100000 in
theorem ct_X8_lengths {g : zb_G} {nc : Nat} (hnJ : 318 ≤ nc) (l : Launch) {a1 : Int32} {I J O : Mem} {r9 : Int32} (hf : fX8_lengths a1 J = some r9) : zb_Ct l g nc yX8_lengths cX8_lengths 4 (some .int) 1 21 [.ref (g.2.2 + 306), .int a1] (zb_ce g I J O) (some (.int r9)) (zb_ce g I J O) := by
  refine zb_ofW (own := RX8) (by decide +kernel) rfl (Nat.le_of_ble_eq_true rfl) ?_
  intro p e s m args below meth c ls X hr hP hl
  have hx := X.1.1
  have hb := X.1.2.1
  have ho := X.1.2.2.2.1
  have hts := X.1.2.2.2.2
  have hZ := X.2.2.2
  have hl : lv_has ls 4 [(0, .ref (g.2.2 + 306)), (1, .int a1)] := hl
  have hS : va_S (zb_A g) s.heap s.heap [] := va_S.rf
  obtain ⟨H, hH⟩ : ∃ H, H = s.heap := ⟨_, rfl⟩
  obtain ⟨locs, hlocs⟩ : ∃ z : List Loc, z = [] := ⟨_, rfl⟩
  rw [← hH] at hP
  have hS : va_S (zb_A g) s.heap H locs := by rw [hH, hlocs]; exact hS
  show W p l e _ s m args below meth c s.heap [] 0 0 _ _
  rw [← hH, ← hlocs]
  rw [fX8_lengths] at hf
  refine lv_iconst (v := (0 : Int32)) hx hb dX8_lengths_0 (by decide) ?_
  refine lv_istore_n (lv' := [(2, .int (0 : Int32)), (0, .ref (g.2.2 + 306)), (1, .int a1)]) hx hb dX8_lengths_1 rfl hl (by decide) rfl (fun ls hl => ?_)
  refine lv_iconst (v := (0 : Int32)) hx hb dX8_lengths_2 (by decide) ?_
  refine lv_istore_n (lv' := [(3, .int (0 : Int32)), (2, .int (0 : Int32)), (0, .ref (g.2.2 + 306)), (1, .int a1)]) hx hb dX8_lengths_3 rfl hl (by decide) rfl (fun ls hl => ?_)
  obtain ⟨x4, hx4, hf⟩ := ob_e hf
  have K2 : ∀ (H : Heap) (locs : List Loc) (ls : Array Slot), va_P g.1 vwCl (zb_ws g nc (zb_ce g I J O)) H → va_S (zb_A g) s.heap H locs → lv_has ls 4 [(2, .int x4)] → W p l e { frames := 1, cells := 0, slots := 0, locals := 21 } s m args below meth c H locs 0 0 (MQ below (zb_Po g nc (zb_ce g I J O) (some (.int r9))) args s 0 0 (zb_A g)) (F0 m 36 ls []) := by
    intro H locs ls hP hS hl
    refine lv_iload_n hx hb dX8_lengths_36 rfl (lv_at hl 0 rfl) ?_
    cases hf
    exact zr_iret X hr hP hS dX8_lengths_37
  exact lpX8_lengths_L4 hnJ l  X hx4 K2 hP hS (lv_sub hl [0, 1, 2, 3] rfl)
set_option maxHeartbeats 4000000 in
set_option maxRecDepth 100000 in
theorem lpX8_planOf_L10 {g : zb_G} {nc : Nat} (hnJ : 318 ≤ nc) (l : Launch) {a2 : Int32} {a1 : Int32} {I O : Mem} {p : Program} {e : Env} {s : State} {m : MethodId} {args : Array Value} {below : List Frame} {meth : Method} {c : Code} {Q : State → Prop} (X : zb_X g p m c cX8_planOf 6 s args RX8 meth) : ∀ {n9 : Nat} {a4 : Int32} {a3 : Int32} {J : Mem} {z3 : Int32} {H : Heap} {locs : List Loc} {ls : Array Slot}, fX8_planOf_L10 a2 a1 n9 a4 a3 J = some z3 → (∀ (H : Heap) (locs : List Loc) (ls : Array Slot), va_P g.1 vwCl (zb_ws g nc (zb_ce g I J O)) H → va_S (zb_A g) s.heap H locs → lv_has ls 6 [(3, .int z3)] → W p l e { frames := 3, cells := 0, slots := 0, locals := 69 } s m args below meth c H locs 0 0 Q (F0 m 129 ls [])) → va_P g.1 vwCl (zb_ws g nc (zb_ce g I J O)) H → va_S (zb_A g) s.heap H locs → lv_has ls 6 [(4, .int a4), (3, .int a3), (2, .int a2), (0, .ref (g.2.2 + 306)), (1, .int a1)] → W p l e { frames := 3, cells := 0, slots := 0, locals := 69 } s m args below meth c H locs 0 0 Q (F0 m 10 ls []) := by
  have hx := X.1.1
  have hb := X.1.2.1
  have ho := X.1.2.2.2.1
  have hts := X.1.2.2.2.2
  have hZ := X.2.2.2
  intro n9
  induction n9 with
  | zero =>
    intro a4 a3 J z3 H locs ls hf
    exact nomatch hf
  | succ n9 ih =>
    intro a4 a3 J z3 H locs ls hf KK hP hS hl
    rw [fX8_planOf_L10] at hf
    refine lv_iload hx hb dX8_planOf_10 (lv_at hl 0 rfl) ?_
    refine lv_sipush (v := (512 : Int32)) hx hb dX8_planOf_12 (by decide) ?_
    refine lv_icmp_ge (tgt := 129) hx hb dX8_planOf_15 (by decide) (fun hc => ?_) (fun hc => ?_)
    · have hf := if_t hc hf
      cases hf
      exact KK H locs ls hP hS (lv_sub hl [1] rfl)
    · have hf := if_f hc hf
      refine lv_iload hx hb dX8_planOf_18 (lv_at hl 0 rfl) ?_
      refine lv_iload_n hx hb dX8_planOf_20 rfl (lv_at hl 2 rfl) ?_
      refine lv_iconst (v := (-1 : Int32)) hx hb dX8_planOf_21 (by decide) ?_
      refine lv_ixor hx hb dX8_planOf_22 ?_
      refine lv_iand hx hb dX8_planOf_23 ?_
      obtain ⟨x13, ht, hf⟩ := ob_e hf
      have K1 : ∀ (H : Heap) (locs : List Loc) (ls : Array Slot), va_P g.1 vwCl (zb_ws g nc (zb_ce g I J O)) H → va_S (zb_A g) s.heap H locs → lv_has ls 6 [(4, .int a4), (3, .int x13), (2, .int a2), (0, .ref (g.2.2 + 306)), (1, .int a1)] → W p l e { frames := 3, cells := 0, slots := 0, locals := 69 } s m args below meth c H locs 0 0 Q (F0 m 123 ls []) := by
        intro H locs ls hP hS hl
        refine lv_iinc (v := (a4 + (1 : Int32))) (lv' := [(4, .int (a4 + (1 : Int32))), (3, .int x13), (2, .int a2), (0, .ref (g.2.2 + 306)), (1, .int a1)]) hx hb dX8_planOf_123 hl (k := 0) rfl rfl (by decide) rfl (fun ls hl => ?_)
        refine lv_goto (tgt := 10) hx hb dX8_planOf_126 (by decide) ?_
        exact ih hf KK hP hS (lv_sub hl [0, 1, 2, 3, 4] rfl)
      have hf := ht
      refine lv_if_ne (tgt := 123) hx hb dX8_planOf_24 (by decide) (fun hc => ?_) (fun hc => ?_)
      · have hf := if_f hc hf
        cases hf
        exact K1 H locs ls hP hS (lv_sub hl [0, 1, 2, 3, 4] rfl)
      · have hf := if_t hc hf
        refine lv_aload_n hx hb dX8_planOf_27 rfl (lv_at hl 3 rfl) ?_
        refine lv_iload hx hb dX8_planOf_28 (lv_at hl 0 rfl) ?_
        obtain ⟨x2, hx2, hf⟩ := ob_e hf
        refine zr_cVi (rest := []) (As := [.int a4]) X hP hS (ct_X8_lengths (g := g) (nc := nc) (I := I) (J := J) (O := O) hnJ l  hx2) cw_X8_298 (zr_recv X hP (Nat.lt_of_lt_of_le (zk_306).2.1 hnJ) (zb_ceJo zk_306 (by decide)) rfl) rfl hl.1 (Nat.le_of_ble_eq_true rfl) ⟨Nat.le_of_ble_eq_true rfl, Nat.le_of_ble_eq_true rfl⟩ ⟨Nat.le_of_ble_eq_true rfl, Nat.le_of_ble_eq_true rfl⟩ dX8_planOf_30 rfl (fun H locs hP hS => ?_)
        refine lv_aload_n hx hb dX8_planOf_33 rfl (lv_at hl 3 rfl) ?_
        refine gf_X8_7 X hnJ hP zk_306 dX8_planOf_34 ?_
        refine lv_iconst (v := (4 : Int32)) hx hb dX8_planOf_37 (by decide) ?_
        obtain ⟨x3, hx3, hf⟩ := ob_e hf
        refine zr_aldJ X hP hnJ zk_307 hx3 dX8_planOf_38 ?_
        refine lv_icmp_gt (tgt := 123) hx hb dX8_planOf_39 (by decide) (fun hc => ?_) (fun hc => ?_)
        · have hf := if_t hc hf
          cases hf
          exact K1 H locs ls hP hS (lv_sub hl [0, 1, 2, 3, 4] rfl)
        · have hf := if_f hc hf
          refine lv_aload_n hx hb dX8_planOf_42 rfl (lv_at hl 3 rfl) ?_
          refine lv_iload_n hx hb dX8_planOf_43 rfl (lv_at hl 4 rfl) ?_
          refine lv_iload_n hx hb dX8_planOf_44 rfl (lv_at hl 2 rfl) ?_
          refine lv_iload hx hb dX8_planOf_45 (lv_at hl 0 rfl) ?_
          refine lv_iconst (v := (-1 : Int32)) hx hb dX8_planOf_47 (by decide) ?_
          refine lv_ixor hx hb dX8_planOf_48 ?_
          refine lv_iand hx hb dX8_planOf_49 ?_
          obtain ⟨x4, hx4, hf⟩ := ob_e hf
          refine zr_cVi (rest := []) (As := [.int a1, .int (a2 &&& (a4 ^^^ (-1 : Int32)))]) X hP hS (ct_X8_lacking (g := g) (nc := nc) (I := I) (J := J) (O := O) hnJ l  hx4) cw_X8_295 (zr_recv X hP (Nat.lt_of_lt_of_le (zk_306).2.1 hnJ) (zb_ceJo zk_306 (by decide)) rfl) rfl hl.1 (Nat.le_of_ble_eq_true rfl) ⟨Nat.le_of_ble_eq_true rfl, Nat.le_of_ble_eq_true rfl⟩ ⟨Nat.le_of_ble_eq_true rfl, Nat.le_of_ble_eq_true rfl⟩ dX8_planOf_50 rfl (fun H locs hP hS => ?_)
          refine lv_if_le (tgt := 59) hx hb dX8_planOf_53 (by decide) (fun hc => ?_) (fun hc => ?_)
          · have hf := if_t hc hf
            refine lv_iload_n hx hb dX8_planOf_59 rfl (lv_at hl 1 rfl) ?_
            refine lv_iconst (v := (-1 : Int32)) hx hb dX8_planOf_60 (by decide) ?_
            obtain ⟨x11, ht, hf⟩ := ob_e hf
            have K2 : ∀ (H : Heap) (locs : List Loc) (ls : Array Slot), va_P g.1 vwCl (zb_ws g nc (zb_ce g I J O)) H → va_S (zb_A g) s.heap H locs → lv_has ls 6 [(4, .int a4), (3, .int a3), (2, .int a2), (0, .ref (g.2.2 + 306)), (1, .int a1)] → W p l e { frames := 3, cells := 0, slots := 0, locals := 69 } s m args below meth c H locs 0 0 Q (F0 m 109 ls [.int x11]) := by
              intro H locs ls hP hS hl
              refine lv_istore (lv' := [(5, .int x11), (4, .int a4), (3, .int a3), (2, .int a2), (0, .ref (g.2.2 + 306)), (1, .int a1)]) hx hb dX8_planOf_109 hl (by decide) rfl (fun ls hl => ?_)
              refine lv_iload hx hb dX8_planOf_111 (lv_at hl 0 rfl) ?_
              obtain ⟨x12, ht, hf⟩ := pl_e hf
              have K3 : ∀ (H : Heap) (locs : List Loc) (ls : Array Slot), va_P g.1 vwCl (zb_ws g nc (zb_ce g I J O)) H → va_S (zb_A g) s.heap H locs → lv_has ls 6 [(4, .int a4), (2, .int a2), (0, .ref (g.2.2 + 306)), (1, .int a1)] → W p l e { frames := 3, cells := 0, slots := 0, locals := 69 } s m args below meth c H locs 0 0 Q (F0 m 122 ls [.int x12]) := by
                intro H locs ls hP hS hl
                refine lv_istore_n (lv' := [(3, .int x12), (4, .int a4), (2, .int a2), (0, .ref (g.2.2 + 306)), (1, .int a1)]) hx hb dX8_planOf_122 rfl hl (by decide) rfl (fun ls hl => ?_)
                cases hf
                exact K1 H locs ls hP hS (lv_sub hl [1, 0, 2, 3, 4] rfl)
              have hf := ht
              refine lv_if_eq (tgt := 121) hx hb dX8_planOf_113 (by decide) (fun hc => ?_) (fun hc => ?_)
              · have hf := if_t hc hf
                refine lv_iload_n hx hb dX8_planOf_121 rfl (lv_at hl 2 rfl) ?_
                cases hf
                exact K3 H locs ls hP hS (lv_sub hl [1, 3, 4, 5] rfl)
              · have hf := if_f hc hf
                refine lv_iload hx hb dX8_planOf_116 (lv_at hl 1 rfl) ?_
                refine lv_goto (tgt := 122) hx hb dX8_planOf_118 (by decide) ?_
                cases hf
                exact K3 H locs ls hP hS (lv_sub hl [1, 3, 4, 5] rfl)
            have hf := ht
            refine lv_icmp_eq (tgt := 104) hx hb dX8_planOf_61 (by decide) (fun hc => ?_) (fun hc => ?_)
            · have hf := if_t hc hf
              refine lv_iconst (v := (1 : Int32)) hx hb dX8_planOf_104 (by decide) ?_
              refine lv_goto (tgt := 109) hx hb dX8_planOf_105 (by decide) ?_
              cases hf
              exact K2 H locs ls hP hS (lv_sub hl [0, 1, 2, 3, 4] rfl)
            · have hf := if_f hc hf
              refine lv_aload_n hx hb dX8_planOf_64 rfl (lv_at hl 3 rfl) ?_
              refine lv_iload hx hb dX8_planOf_65 (lv_at hl 0 rfl) ?_
              obtain ⟨x5, hx5, hf⟩ := ob_e hf
              refine zr_cVi (rest := []) (As := [.int a4]) X hP hS (ct_X8_lengths (g := g) (nc := nc) (I := I) (J := J) (O := O) hnJ l  hx5) cw_X8_298 (zr_recv X hP (Nat.lt_of_lt_of_le (zk_306).2.1 hnJ) (zb_ceJo zk_306 (by decide)) rfl) rfl hl.1 (Nat.le_of_ble_eq_true rfl) ⟨Nat.le_of_ble_eq_true rfl, Nat.le_of_ble_eq_true rfl⟩ ⟨Nat.le_of_ble_eq_true rfl, Nat.le_of_ble_eq_true rfl⟩ dX8_planOf_67 rfl (fun H locs hP hS => ?_)
              refine lv_aload_n hx hb dX8_planOf_70 rfl (lv_at hl 3 rfl) ?_
              refine lv_iload_n hx hb dX8_planOf_71 rfl (lv_at hl 1 rfl) ?_
              obtain ⟨x6, hx6, hf⟩ := ob_e hf
              refine zr_cVi (rest := [.int x5]) (As := [.int a3]) X hP hS (ct_X8_lengths (g := g) (nc := nc) (I := I) (J := J) (O := O) hnJ l  hx6) cw_X8_298 (zr_recv X hP (Nat.lt_of_lt_of_le (zk_306).2.1 hnJ) (zb_ceJo zk_306 (by decide)) rfl) rfl hl.1 (Nat.le_of_ble_eq_true rfl) ⟨Nat.le_of_ble_eq_true rfl, Nat.le_of_ble_eq_true rfl⟩ ⟨Nat.le_of_ble_eq_true rfl, Nat.le_of_ble_eq_true rfl⟩ dX8_planOf_72 rfl (fun H locs hP hS => ?_)
              refine lv_icmp_lt (tgt := 104) hx hb dX8_planOf_75 (by decide) (fun hc => ?_) (fun hc => ?_)
              · have hf := if_t hc hf
                refine lv_iconst (v := (1 : Int32)) hx hb dX8_planOf_104 (by decide) ?_
                refine lv_goto (tgt := 109) hx hb dX8_planOf_105 (by decide) ?_
                cases hf
                exact K2 H locs ls hP hS (lv_sub hl [0, 1, 2, 3, 4] rfl)
              · have hf := if_f hc hf
                refine lv_aload_n hx hb dX8_planOf_78 rfl (lv_at hl 3 rfl) ?_
                refine lv_iload hx hb dX8_planOf_79 (lv_at hl 0 rfl) ?_
                obtain ⟨x7, hx7, hf⟩ := ob_e hf
                refine zr_cVi (rest := []) (As := [.int a4]) X hP hS (ct_X8_lengths (g := g) (nc := nc) (I := I) (J := J) (O := O) hnJ l  hx7) cw_X8_298 (zr_recv X hP (Nat.lt_of_lt_of_le (zk_306).2.1 hnJ) (zb_ceJo zk_306 (by decide)) rfl) rfl hl.1 (Nat.le_of_ble_eq_true rfl) ⟨Nat.le_of_ble_eq_true rfl, Nat.le_of_ble_eq_true rfl⟩ ⟨Nat.le_of_ble_eq_true rfl, Nat.le_of_ble_eq_true rfl⟩ dX8_planOf_81 rfl (fun H locs hP hS => ?_)
                refine lv_aload_n hx hb dX8_planOf_84 rfl (lv_at hl 3 rfl) ?_
                refine lv_iload_n hx hb dX8_planOf_85 rfl (lv_at hl 1 rfl) ?_
                obtain ⟨x8, hx8, hf⟩ := ob_e hf
                refine zr_cVi (rest := [.int x7]) (As := [.int a3]) X hP hS (ct_X8_lengths (g := g) (nc := nc) (I := I) (J := J) (O := O) hnJ l  hx8) cw_X8_298 (zr_recv X hP (Nat.lt_of_lt_of_le (zk_306).2.1 hnJ) (zb_ceJo zk_306 (by decide)) rfl) rfl hl.1 (Nat.le_of_ble_eq_true rfl) ⟨Nat.le_of_ble_eq_true rfl, Nat.le_of_ble_eq_true rfl⟩ ⟨Nat.le_of_ble_eq_true rfl, Nat.le_of_ble_eq_true rfl⟩ dX8_planOf_86 rfl (fun H locs hP hS => ?_)
                refine lv_icmp_ne (tgt := 108) hx hb dX8_planOf_89 (by decide) (fun hc => ?_) (fun hc => ?_)
                · have hf := if_f hc hf
                  refine lv_iconst (v := (0 : Int32)) hx hb dX8_planOf_108 (by decide) ?_
                  cases hf
                  exact K2 H locs ls hP hS (lv_sub hl [0, 1, 2, 3, 4] rfl)
                · have hf := if_t hc hf
                  refine lv_iload hx hb dX8_planOf_92 (lv_at hl 0 rfl) ?_
                  obtain ⟨x9, hx9, hf⟩ := ob_e hf
                  refine zr_cSi (rest := []) (As := [.int a4]) X hP hS (ct_X8_bits (g := g) (nc := nc) (I := I) (J := J) (O := O)  l  hx9) cw_X8_243  rfl hl.1 (Nat.le_of_ble_eq_true rfl) ⟨Nat.le_of_ble_eq_true rfl, Nat.le_of_ble_eq_true rfl⟩ ⟨Nat.le_of_ble_eq_true rfl, Nat.le_of_ble_eq_true rfl⟩ dX8_planOf_94 rfl (fun H locs hP hS => ?_)
                  refine lv_iload_n hx hb dX8_planOf_97 rfl (lv_at hl 1 rfl) ?_
                  obtain ⟨x10, hx10, hf⟩ := ob_e hf
                  refine zr_cSi (rest := [.int x9]) (As := [.int a3]) X hP hS (ct_X8_bits (g := g) (nc := nc) (I := I) (J := J) (O := O)  l  hx10) cw_X8_243  rfl hl.1 (Nat.le_of_ble_eq_true rfl) ⟨Nat.le_of_ble_eq_true rfl, Nat.le_of_ble_eq_true rfl⟩ ⟨Nat.le_of_ble_eq_true rfl, Nat.le_of_ble_eq_true rfl⟩ dX8_planOf_98 rfl (fun H locs hP hS => ?_)
                  refine lv_icmp_ge (tgt := 108) hx hb dX8_planOf_101 (by decide) (fun hc => ?_) (fun hc => ?_)
                  · have hf := if_t hc hf
                    refine lv_iconst (v := (0 : Int32)) hx hb dX8_planOf_108 (by decide) ?_
                    cases hf
                    exact K2 H locs ls hP hS (lv_sub hl [0, 1, 2, 3, 4] rfl)
                  · have hf := if_f hc hf
                    refine lv_iconst (v := (1 : Int32)) hx hb dX8_planOf_104 (by decide) ?_
                    refine lv_goto (tgt := 109) hx hb dX8_planOf_105 (by decide) ?_
                    cases hf
                    exact K2 H locs ls hP hS (lv_sub hl [0, 1, 2, 3, 4] rfl)
          · have hf := if_f hc hf
            refine lv_goto (tgt := 123) hx hb dX8_planOf_56 (by decide) ?_
            cases hf
            exact K1 H locs ls hP hS (lv_sub hl [0, 1, 2, 3, 4] rfl)
set_option maxHeartbeats 4000000 in
set_option maxRecDepth 100000 in
theorem ct_X8_planOf {g : zb_G} {nc : Nat} (hnJ : 318 ≤ nc) (l : Launch) {a1 : Int32} {I J O : Mem} {r9 : Int32} (hf : fX8_planOf a1 J = some r9) : zb_Ct l g nc yX8_planOf cX8_planOf 6 (some .int) 3 69 [.ref (g.2.2 + 306), .int a1] (zb_ce g I J O) (some (.int r9)) (zb_ce g I J O) := by
  refine zb_ofW (own := RX8) (by decide +kernel) rfl (Nat.le_of_ble_eq_true rfl) ?_
  intro p e s m args below meth c ls X hr hP hl
  have hx := X.1.1
  have hb := X.1.2.1
  have ho := X.1.2.2.2.1
  have hts := X.1.2.2.2.2
  have hZ := X.2.2.2
  have hl : lv_has ls 6 [(0, .ref (g.2.2 + 306)), (1, .int a1)] := hl
  have hS : va_S (zb_A g) s.heap s.heap [] := va_S.rf
  obtain ⟨H, hH⟩ : ∃ H, H = s.heap := ⟨_, rfl⟩
  obtain ⟨locs, hlocs⟩ : ∃ z : List Loc, z = [] := ⟨_, rfl⟩
  rw [← hH] at hP
  have hS : va_S (zb_A g) s.heap H locs := by rw [hH, hlocs]; exact hS
  show W p l e _ s m args below meth c s.heap [] 0 0 _ _
  rw [← hH, ← hlocs]
  rw [fX8_planOf] at hf
  refine lv_aload_n hx hb dX8_planOf_0 rfl (lv_at hl 0 rfl) ?_
  obtain ⟨x1, hx1, hf⟩ := ob_e hf
  refine zr_cVi (rest := []) (As := []) X hP hS (ct_X8_brokenSet (g := g) (nc := nc) (I := I) (J := J) (O := O) hnJ l  hx1) cw_X8_249 (zr_recv X hP (Nat.lt_of_lt_of_le (zk_306).2.1 hnJ) (zb_ceJo zk_306 (by decide)) rfl) rfl hl.1 (Nat.le_of_ble_eq_true rfl) ⟨Nat.le_of_ble_eq_true rfl, Nat.le_of_ble_eq_true rfl⟩ ⟨Nat.le_of_ble_eq_true rfl, Nat.le_of_ble_eq_true rfl⟩ dX8_planOf_1 rfl (fun H locs hP hS => ?_)
  refine lv_istore_n (lv' := [(2, .int x1), (0, .ref (g.2.2 + 306)), (1, .int a1)]) hx hb dX8_planOf_4 rfl hl (by decide) rfl (fun ls hl => ?_)
  refine lv_iconst (v := (-1 : Int32)) hx hb dX8_planOf_5 (by decide) ?_
  refine lv_istore_n (lv' := [(3, .int (-1 : Int32)), (2, .int x1), (0, .ref (g.2.2 + 306)), (1, .int a1)]) hx hb dX8_planOf_6 rfl hl (by decide) rfl (fun ls hl => ?_)
  refine lv_iconst (v := (0 : Int32)) hx hb dX8_planOf_7 (by decide) ?_
  refine lv_istore (lv' := [(4, .int (0 : Int32)), (3, .int (-1 : Int32)), (2, .int x1), (0, .ref (g.2.2 + 306)), (1, .int a1)]) hx hb dX8_planOf_8 hl (by decide) rfl (fun ls hl => ?_)
  obtain ⟨x14, hx14, hf⟩ := ob_e hf
  have K4 : ∀ (H : Heap) (locs : List Loc) (ls : Array Slot), va_P g.1 vwCl (zb_ws g nc (zb_ce g I J O)) H → va_S (zb_A g) s.heap H locs → lv_has ls 6 [(3, .int x14)] → W p l e { frames := 3, cells := 0, slots := 0, locals := 69 } s m args below meth c H locs 0 0 (MQ below (zb_Po g nc (zb_ce g I J O) (some (.int r9))) args s 0 0 (zb_A g)) (F0 m 129 ls []) := by
    intro H locs ls hP hS hl
    refine lv_iload_n hx hb dX8_planOf_129 rfl (lv_at hl 0 rfl) ?_
    cases hf
    exact zr_iret X hr hP hS dX8_planOf_130
  exact lpX8_planOf_L10 hnJ l  X hx14 K4 hP hS (lv_sub hl [0, 1, 2, 3, 4] rfl)
set_option maxHeartbeats 4000000 in
set_option maxRecDepth 100000 in
theorem ct_X8_plan {g : zb_G} {nc : Nat} (hnJ : 318 ≤ nc) (l : Launch) {a1 : Int32} {I J O : Mem} {r9 : Int32} {Jq : Mem} (hf : fX8_plan a1 J = some (r9, Jq)) : zb_Ct l g nc yX8_plan cX8_plan 2 (some .int) 4 94 [.ref (g.2.2 + 306), .int a1] (zb_ce g I J O) (some (.int r9)) (zb_ce g I Jq O) := by
  refine zb_ofW (own := RX8) (by decide +kernel) rfl (Nat.le_of_ble_eq_true rfl) ?_
  intro p e s m args below meth c ls X hr hP hl
  have hx := X.1.1
  have hb := X.1.2.1
  have ho := X.1.2.2.2.1
  have hts := X.1.2.2.2.2
  have hZ := X.2.2.2
  have hl : lv_has ls 2 [(0, .ref (g.2.2 + 306)), (1, .int a1)] := hl
  have hS : va_S (zb_A g) s.heap s.heap [] := va_S.rf
  obtain ⟨H, hH⟩ : ∃ H, H = s.heap := ⟨_, rfl⟩
  obtain ⟨locs, hlocs⟩ : ∃ z : List Loc, z = [] := ⟨_, rfl⟩
  rw [← hH] at hP
  have hS : va_S (zb_A g) s.heap H locs := by rw [hH, hlocs]; exact hS
  show W p l e _ s m args below meth c s.heap [] 0 0 _ _
  rw [← hH, ← hlocs]
  rw [fX8_plan] at hf
  refine lv_aload_n hx hb dX8_plan_0 rfl (lv_at hl 0 rfl) ?_
  refine lv_iload_n hx hb dX8_plan_1 rfl (lv_at hl 1 rfl) ?_
  obtain ⟨x1, J2, hx1_J2, hf⟩ := ob2_e hf
  refine zr_cVi (rest := []) (As := [.int a1]) X hP hS (ct_X8_noForce (g := g) (nc := nc) (I := I) (J := J) (O := O) hnJ l  hx1_J2) cw_X8_292 (zr_recv X hP (Nat.lt_of_lt_of_le (zk_306).2.1 hnJ) (zb_ceJo zk_306 (by decide)) rfl) rfl hl.1 (Nat.le_of_ble_eq_true rfl) ⟨Nat.le_of_ble_eq_true rfl, Nat.le_of_ble_eq_true rfl⟩ ⟨Nat.le_of_ble_eq_true rfl, Nat.le_of_ble_eq_true rfl⟩ dX8_plan_2 rfl (fun H locs hP hS => ?_)
  obtain ⟨x4, ht, hf⟩ := ob_e hf
  have K1 : ∀ (H : Heap) (locs : List Loc) (ls : Array Slot), va_P g.1 vwCl (zb_ws g nc (zb_ce g I J2 O)) H → va_S (zb_A g) s.heap H locs → lv_has ls 2 [] → W p l e { frames := 4, cells := 0, slots := 0, locals := 94 } s m args below meth c H locs 0 0 (MQ below (zb_Po g nc (zb_ce g I Jq O) (some (.int r9))) args s 0 0 (zb_A g)) (F0 m 17 ls [.int x4]) := by
    intro H locs ls hP hS hl
    cases hf
    exact zr_iret X hr hP hS dX8_plan_17
  have hf := ht
  refine lv_if_eq (tgt := 12) hx hb dX8_plan_5 (by decide) (fun hc => ?_) (fun hc => ?_)
  · have hf := if_t hc hf
    refine lv_aload_n hx hb dX8_plan_12 rfl (lv_at hl 0 rfl) ?_
    refine lv_iload_n hx hb dX8_plan_13 rfl (lv_at hl 1 rfl) ?_
    obtain ⟨x3, hx3, hf⟩ := ob_e hf
    refine zr_cVi (rest := []) (As := [.int a1]) X hP hS (ct_X8_planOf (g := g) (nc := nc) (I := I) (J := J2) (O := O) hnJ l  hx3) cw_X8_301 (zr_recv X hP (Nat.lt_of_lt_of_le (zk_306).2.1 hnJ) (zb_ceJo zk_306 (by decide)) rfl) rfl hl.1 (Nat.le_of_ble_eq_true rfl) ⟨Nat.le_of_ble_eq_true rfl, Nat.le_of_ble_eq_true rfl⟩ ⟨Nat.le_of_ble_eq_true rfl, Nat.le_of_ble_eq_true rfl⟩ dX8_plan_14 rfl (fun H locs hP hS => ?_)
    cases hf
    exact K1 H locs ls hP hS (lv_sub hl [] rfl)
  · have hf := if_f hc hf
    refine lv_iconst (v := (0 : Int32)) hx hb dX8_plan_8 (by decide) ?_
    refine lv_goto (tgt := 17) hx hb dX8_plan_9 (by decide) ?_
    cases hf
    exact K1 H locs ls hP hS (lv_sub hl [] rfl)
set_option maxHeartbeats 4000000 in
set_option maxRecDepth 100000 in
theorem ct_X8_planLength {g : zb_G} {nc : Nat} (hnJ : 318 ≤ nc) (l : Launch) {a1 : Int32} {I J O : Mem} {r9 : Int32} {Jq : Mem} (hf : fX8_planLength a1 J = some (r9, Jq)) : zb_Ct l g nc yX8_planLength cX8_planLength 3 (some .int) 4 94 [.ref (g.2.2 + 306), .int a1] (zb_ce g I J O) (some (.int r9)) (zb_ce g I Jq O) := by
  refine zb_ofW (own := RX8) (by decide +kernel) rfl (Nat.le_of_ble_eq_true rfl) ?_
  intro p e s m args below meth c ls X hr hP hl
  have hx := X.1.1
  have hb := X.1.2.1
  have ho := X.1.2.2.2.1
  have hts := X.1.2.2.2.2
  have hZ := X.2.2.2
  have hl : lv_has ls 3 [(0, .ref (g.2.2 + 306)), (1, .int a1)] := hl
  have hS : va_S (zb_A g) s.heap s.heap [] := va_S.rf
  obtain ⟨H, hH⟩ : ∃ H, H = s.heap := ⟨_, rfl⟩
  obtain ⟨locs, hlocs⟩ : ∃ z : List Loc, z = [] := ⟨_, rfl⟩
  rw [← hH] at hP
  have hS : va_S (zb_A g) s.heap H locs := by rw [hH, hlocs]; exact hS
  show W p l e _ s m args below meth c s.heap [] 0 0 _ _
  rw [← hH, ← hlocs]
  rw [fX8_planLength] at hf
  refine lv_aload_n hx hb dX8_planLength_0 rfl (lv_at hl 0 rfl) ?_
  refine lv_iload_n hx hb dX8_planLength_1 rfl (lv_at hl 1 rfl) ?_
  obtain ⟨x1, J2, hx1_J2, hf⟩ := ob2_e hf
  refine zr_cVi (rest := []) (As := [.int a1]) X hP hS (ct_X8_noForce (g := g) (nc := nc) (I := I) (J := J) (O := O) hnJ l  hx1_J2) cw_X8_292 (zr_recv X hP (Nat.lt_of_lt_of_le (zk_306).2.1 hnJ) (zb_ceJo zk_306 (by decide)) rfl) rfl hl.1 (Nat.le_of_ble_eq_true rfl) ⟨Nat.le_of_ble_eq_true rfl, Nat.le_of_ble_eq_true rfl⟩ ⟨Nat.le_of_ble_eq_true rfl, Nat.le_of_ble_eq_true rfl⟩ dX8_planLength_2 rfl (fun H locs hP hS => ?_)
  refine lv_if_eq (tgt := 10) hx hb dX8_planLength_5 (by decide) (fun hc => ?_) (fun hc => ?_)
  · have hf := if_t hc hf
    refine lv_aload_n hx hb dX8_planLength_10 rfl (lv_at hl 0 rfl) ?_
    refine lv_iload_n hx hb dX8_planLength_11 rfl (lv_at hl 1 rfl) ?_
    obtain ⟨x3, hx3, hf⟩ := ob_e hf
    refine zr_cVi (rest := []) (As := [.int a1]) X hP hS (ct_X8_planOf (g := g) (nc := nc) (I := I) (J := J2) (O := O) hnJ l  hx3) cw_X8_301 (zr_recv X hP (Nat.lt_of_lt_of_le (zk_306).2.1 hnJ) (zb_ceJo zk_306 (by decide)) rfl) rfl hl.1 (Nat.le_of_ble_eq_true rfl) ⟨Nat.le_of_ble_eq_true rfl, Nat.le_of_ble_eq_true rfl⟩ ⟨Nat.le_of_ble_eq_true rfl, Nat.le_of_ble_eq_true rfl⟩ dX8_planLength_12 rfl (fun H locs hP hS => ?_)
    refine lv_istore_n (lv' := [(2, .int x3), (0, .ref (g.2.2 + 306)), (1, .int a1)]) hx hb dX8_planLength_15 rfl hl (by decide) rfl (fun ls hl => ?_)
    refine lv_iload_n hx hb dX8_planLength_16 rfl (lv_at hl 0 rfl) ?_
    refine lv_iconst (v := (-1 : Int32)) hx hb dX8_planLength_17 (by decide) ?_
    obtain ⟨x5, ht, hf⟩ := ob_e hf
    have K1 : ∀ (H : Heap) (locs : List Loc) (ls : Array Slot), va_P g.1 vwCl (zb_ws g nc (zb_ce g I J2 O)) H → va_S (zb_A g) s.heap H locs → lv_has ls 3 [] → W p l e { frames := 4, cells := 0, slots := 0, locals := 94 } s m args below meth c H locs 0 0 (MQ below (zb_Po g nc (zb_ce g I Jq O) (some (.int r9))) args s 0 0 (zb_A g)) (F0 m 30 ls [.int x5]) := by
      intro H locs ls hP hS hl
      cases hf
      exact zr_iret X hr hP hS dX8_planLength_30
    have hf := ht
    refine lv_icmp_ne (tgt := 25) hx hb dX8_planLength_18 (by decide) (fun hc => ?_) (fun hc => ?_)
    · have hf := if_f hc hf
      refine lv_aload_n hx hb dX8_planLength_25 rfl (lv_at hl 1 rfl) ?_
      refine lv_iload_n hx hb dX8_planLength_26 rfl (lv_at hl 0 rfl) ?_
      obtain ⟨x4, hx4, hf⟩ := ob_e hf
      refine zr_cVi (rest := []) (As := [.int x3]) X hP hS (ct_X8_lengths (g := g) (nc := nc) (I := I) (J := J2) (O := O) hnJ l  hx4) cw_X8_298 (zr_recv X hP (Nat.lt_of_lt_of_le (zk_306).2.1 hnJ) (zb_ceJo zk_306 (by decide)) rfl) rfl hl.1 (Nat.le_of_ble_eq_true rfl) ⟨Nat.le_of_ble_eq_true rfl, Nat.le_of_ble_eq_true rfl⟩ ⟨Nat.le_of_ble_eq_true rfl, Nat.le_of_ble_eq_true rfl⟩ dX8_planLength_27 rfl (fun H locs hP hS => ?_)
      cases hf
      exact K1 H locs ls hP hS (lv_sub hl [] rfl)
    · have hf := if_t hc hf
      refine lv_iconst (v := (-1 : Int32)) hx hb dX8_planLength_21 (by decide) ?_
      refine lv_goto (tgt := 30) hx hb dX8_planLength_22 (by decide) ?_
      cases hf
      exact K1 H locs ls hP hS (lv_sub hl [] rfl)
  · have hf := if_f hc hf
    refine lv_iconst (v := (0 : Int32)) hx hb dX8_planLength_8 (by decide) ?_
    cases hf
    exact zr_iret X hr hP hS dX8_planLength_9
set_option maxHeartbeats 4000000 in
set_option maxRecDepth 100000 in
theorem lpX8_keeps_L21 {g : zb_G} {nc : Nat} (hnJ : 318 ≤ nc) (l : Launch) {I O : Mem} {p : Program} {e : Env} {s : State} {m : MethodId} {args : Array Value} {below : List Frame} {meth : Method} {c : Code} {Q : State → Prop} (X : zb_X g p m c cX8_keeps 2 s args RX8 meth) : ∀ {n9 : Nat} {a1 : Int32} {J : Mem} {Jz : Mem} {H : Heap} {locs : List Loc} {ls : Array Slot}, fX8_keeps_L21 n9 a1 J = some Jz → (∀ (H : Heap) (locs : List Loc) (ls : Array Slot), va_P g.1 vwCl (zb_ws g nc (zb_ce g I Jz O)) H → va_S (zb_A g) s.heap H locs → lv_has ls 2 [(0, .ref (g.2.2 + 306))] → W p l e { frames := 1, cells := 0, slots := 0, locals := 24 } s m args below meth c H locs 0 0 Q (F0 m 58 ls [])) → va_P g.1 vwCl (zb_ws g nc (zb_ce g I J O)) H → va_S (zb_A g) s.heap H locs → lv_has ls 2 [(1, .int a1), (0, .ref (g.2.2 + 306))] → W p l e { frames := 1, cells := 0, slots := 0, locals := 24 } s m args below meth c H locs 0 0 Q (F0 m 21 ls []) := by
  have hx := X.1.1
  have hb := X.1.2.1
  have ho := X.1.2.2.2.1
  have hts := X.1.2.2.2.2
  have hZ := X.2.2.2
  intro n9
  induction n9 with
  | zero =>
    intro a1 J Jz H locs ls hf
    exact nomatch hf
  | succ n9 ih =>
    intro a1 J Jz H locs ls hf KK hP hS hl
    rw [fX8_keeps_L21] at hf
    refine lv_iload_n hx hb dX8_keeps_21 rfl (lv_at hl 0 rfl) ?_
    refine lv_aload_n hx hb dX8_keeps_22 rfl (lv_at hl 1 rfl) ?_
    refine gf_X8_173 X hnJ hP zk_306 dX8_keeps_23 ?_
    refine lv_icmp_ge (tgt := 58) hx hb dX8_keeps_26 (by decide) (fun hc => ?_) (fun hc => ?_)
    · have hf := if_t hc hf
      cases hf
      exact KK H locs ls hP hS (lv_sub hl [1] rfl)
    · have hf := if_f hc hf
      refine lv_aload_n hx hb dX8_keeps_29 rfl (lv_at hl 1 rfl) ?_
      refine gf_X8_19 X hnJ hP zk_306 dX8_keeps_30 ?_
      refine lv_sipush (v := (574 : Int32)) hx hb dX8_keeps_33 (by decide) ?_
      refine lv_iload_n hx hb dX8_keeps_36 rfl (lv_at hl 0 rfl) ?_
      refine lv_iconst (v := (1 : Int32)) hx hb dX8_keeps_37 (by decide) ?_
      refine lv_iadd hx hb dX8_keeps_38 ?_
      refine lv_imul hx hb dX8_keeps_39 ?_
      refine lv_aload_n hx hb dX8_keeps_40 rfl (lv_at hl 1 rfl) ?_
      refine gf_X8_19 X hnJ hP zk_306 dX8_keeps_41 ?_
      refine lv_sipush (v := (574 : Int32)) hx hb dX8_keeps_44 (by decide) ?_
      refine lv_iload_n hx hb dX8_keeps_47 rfl (lv_at hl 0 rfl) ?_
      refine lv_imul hx hb dX8_keeps_48 ?_
      obtain ⟨J1, hJ1, hf⟩ := ob_e hf
      refine zr_cSv (rest := []) (As := [.ref (g.2.2 + 310), .int ((574 : Int32) * (a1 + (1 : Int32))), .ref (g.2.2 + 310), .int ((574 : Int32) * a1)]) X hP hS (ct_X8_copies (g := g) (nc := nc) (I := I) (J := J) (O := O) hnJ l zk_310 zk_310 hJ1) cw_X8_169  rfl hl.1 (Nat.le_of_ble_eq_true rfl) ⟨Nat.le_of_ble_eq_true rfl, Nat.le_of_ble_eq_true rfl⟩ ⟨Nat.le_of_ble_eq_true rfl, Nat.le_of_ble_eq_true rfl⟩ dX8_keeps_49 rfl (fun H locs hP hS => ?_)
      refine lv_iinc (v := (a1 + (1 : Int32))) (lv' := [(1, .int (a1 + (1 : Int32))), (0, .ref (g.2.2 + 306))]) hx hb dX8_keeps_52 hl (k := 0) rfl rfl (by decide) rfl (fun ls hl => ?_)
      refine lv_goto (tgt := 21) hx hb dX8_keeps_55 (by decide) ?_
      exact ih hf KK hP hS (lv_sub hl [0, 1] rfl)
set_option maxHeartbeats 4000000 in
set_option maxRecDepth 100000 in
theorem ct_X8_keeps {g : zb_G} {nc : Nat} (hnJ : 318 ≤ nc) (l : Launch) {I J O : Mem} {Jq : Mem} (hf : fX8_keeps J = some Jq) : zb_Ct l g nc yX8_keeps cX8_keeps 2 none 1 24 [.ref (g.2.2 + 306)] (zb_ce g I J O) none (zb_ce g I Jq O) := by
  refine zb_ofW (own := RX8) (by decide +kernel) rfl (Nat.le_of_ble_eq_true rfl) ?_
  intro p e s m args below meth c ls X hr hP hl
  have hx := X.1.1
  have hb := X.1.2.1
  have ho := X.1.2.2.2.1
  have hts := X.1.2.2.2.2
  have hZ := X.2.2.2
  have hl : lv_has ls 2 [(0, .ref (g.2.2 + 306))] := hl
  have hS : va_S (zb_A g) s.heap s.heap [] := va_S.rf
  obtain ⟨H, hH⟩ : ∃ H, H = s.heap := ⟨_, rfl⟩
  obtain ⟨locs, hlocs⟩ : ∃ z : List Loc, z = [] := ⟨_, rfl⟩
  rw [← hH] at hP
  have hS : va_S (zb_A g) s.heap H locs := by rw [hH, hlocs]; exact hS
  show W p l e _ s m args below meth c s.heap [] 0 0 _ _
  rw [← hH, ← hlocs]
  rw [fX8_keeps] at hf
  refine lv_aload_n hx hb dX8_keeps_0 rfl (lv_at hl 0 rfl) ?_
  refine gf_X8_173 X hnJ hP zk_306 dX8_keeps_1 ?_
  refine lv_bipush (v := (8 : Int32)) hx hb dX8_keeps_4 (by decide) ?_
  obtain ⟨J3, ht, hf⟩ := ob_e hf
  have K1 : ∀ (H : Heap) (locs : List Loc) (ls : Array Slot), va_P g.1 vwCl (zb_ws g nc (zb_ce g I J3 O)) H → va_S (zb_A g) s.heap H locs → lv_has ls 2 [(0, .ref (g.2.2 + 306))] → W p l e { frames := 1, cells := 0, slots := 0, locals := 24 } s m args below meth c H locs 0 0 (MQ below (zb_Po g nc (zb_ce g I Jq O) none) args s 0 0 (zb_A g)) (F0 m 58 ls []) := by
    intro H locs ls hP hS hl
    refine lv_aload_n hx hb dX8_keeps_58 rfl (lv_at hl 0 rfl) ?_
    refine gf_X8_7 X hnJ hP zk_306 dX8_keeps_59 ?_
    refine lv_iconst (v := (0 : Int32)) hx hb dX8_keeps_62 (by decide) ?_
    refine lv_aload_n hx hb dX8_keeps_63 rfl (lv_at hl 0 rfl) ?_
    refine gf_X8_19 X hnJ hP zk_306 dX8_keeps_64 ?_
    refine lv_sipush (v := (574 : Int32)) hx hb dX8_keeps_67 (by decide) ?_
    refine lv_aload_n hx hb dX8_keeps_70 rfl (lv_at hl 0 rfl) ?_
    refine gf_X8_173 X hnJ hP zk_306 dX8_keeps_71 ?_
    refine lv_imul hx hb dX8_keeps_74 ?_
    obtain ⟨J4, hJ4, hf⟩ := ob_e hf
    refine zr_cSv (rest := []) (As := [.ref (g.2.2 + 307), .int (0 : Int32), .ref (g.2.2 + 310), .int ((574 : Int32) * (J3 306 8))]) X hP hS (ct_X8_copies (g := g) (nc := nc) (I := I) (J := J3) (O := O) hnJ l zk_307 zk_310 hJ4) cw_X8_169  rfl hl.1 (Nat.le_of_ble_eq_true rfl) ⟨Nat.le_of_ble_eq_true rfl, Nat.le_of_ble_eq_true rfl⟩ ⟨Nat.le_of_ble_eq_true rfl, Nat.le_of_ble_eq_true rfl⟩ dX8_keeps_75 rfl (fun H locs hP hS => ?_)
    refine lv_aload_n hx hb dX8_keeps_78 rfl (lv_at hl 0 rfl) ?_
    refine lv_dup hx hb dX8_keeps_79 rfl ?_
    refine gf_X8_173 X hnJ hP zk_306 dX8_keeps_80 ?_
    refine lv_iconst (v := (1 : Int32)) hx hb dX8_keeps_83 (by decide) ?_
    refine lv_iadd hx hb dX8_keeps_84 ?_
    refine pf_X8_173 X hnJ hP hS zk_306 dX8_keeps_85 (fun H locs hP hS => ?_)
    refine lv_aload_n hx hb dX8_keeps_88 rfl (lv_at hl 0 rfl) ?_
    refine gf_X8_29 X hnJ hP zk_306 dX8_keeps_89 ?_
    refine lv_iconst (v := (0 : Int32)) hx hb dX8_keeps_92 (by decide) ?_
    refine lv_dup2_11 hx hb dX8_keeps_93 rfl rfl ?_
    obtain ⟨x5, hx5, hf⟩ := ob_e hf
    refine zr_aldJ X hP hnJ zk_313 hx5 dX8_keeps_94 ?_
    refine lv_iconst (v := (1 : Int32)) hx hb dX8_keeps_95 (by decide) ?_
    refine lv_iadd hx hb dX8_keeps_96 ?_
    obtain ⟨J6, hJ6, hf⟩ := ob_e hf
    refine zr_astJ X hP hS hnJ zk_313 hJ6 dX8_keeps_97 (fun H locs hP hS => ?_)
    cases hf
    exact zr_vret X hr hP hS rfl dX8_keeps_98
  have hf := ht
  refine lv_icmp_ne (tgt := 58) hx hb dX8_keeps_6 (by decide) (fun hc => ?_) (fun hc => ?_)
  · have hf := if_f hc hf
    cases hf
    exact K1 H locs ls hP hS (lv_sub hl [0] rfl)
  · have hf := if_t hc hf
    refine lv_aload_n hx hb dX8_keeps_9 rfl (lv_at hl 0 rfl) ?_
    refine lv_dup hx hb dX8_keeps_10 rfl ?_
    refine gf_X8_173 X hnJ hP zk_306 dX8_keeps_11 ?_
    refine lv_iconst (v := (1 : Int32)) hx hb dX8_keeps_14 (by decide) ?_
    refine lv_isub hx hb dX8_keeps_15 ?_
    refine pf_X8_173 X hnJ hP hS zk_306 dX8_keeps_16 (fun H locs hP hS => ?_)
    refine lv_iconst (v := (0 : Int32)) hx hb dX8_keeps_19 (by decide) ?_
    refine lv_istore_n (lv' := [(1, .int (0 : Int32)), (0, .ref (g.2.2 + 306))]) hx hb dX8_keeps_20 rfl hl (by decide) rfl (fun ls hl => ?_)
    obtain ⟨J2, hJ2, hf⟩ := ob_e hf
    have K2 : ∀ (H : Heap) (locs : List Loc) (ls : Array Slot), va_P g.1 vwCl (zb_ws g nc (zb_ce g I J2 O)) H → va_S (zb_A g) s.heap H locs → lv_has ls 2 [(0, .ref (g.2.2 + 306))] → W p l e { frames := 1, cells := 0, slots := 0, locals := 24 } s m args below meth c H locs 0 0 (MQ below (zb_Po g nc (zb_ce g I Jq O) none) args s 0 0 (zb_A g)) (F0 m 58 ls []) := by
      intro H locs ls hP hS hl
      cases hf
      exact K1 H locs ls hP hS (lv_sub hl [0] rfl)
    exact lpX8_keeps_L21 hnJ l  X hJ2 K2 hP hS (lv_sub hl [0, 1] rfl)
set_option maxHeartbeats 4000000 in
set_option maxRecDepth 100000 in
theorem ct_X8_refused {g : zb_G} {nc : Nat} (hnJ : 318 ≤ nc) (l : Launch) {a1 : Int32} {I J O : Mem} {r9 : Int32} {Jq : Mem} (hf : fX8_refused a1 J = some (r9, Jq)) : zb_Ct l g nc yX8_refused cX8_refused 2 (some .int) 0 0 [.ref (g.2.2 + 306), .int a1] (zb_ce g I J O) (some (.int r9)) (zb_ce g I Jq O) := by
  refine zb_ofW (own := RX8) (by decide +kernel) rfl (Nat.le_of_ble_eq_true rfl) ?_
  intro p e s m args below meth c ls X hr hP hl
  have hx := X.1.1
  have hb := X.1.2.1
  have ho := X.1.2.2.2.1
  have hts := X.1.2.2.2.2
  have hZ := X.2.2.2
  have hl : lv_has ls 2 [(0, .ref (g.2.2 + 306)), (1, .int a1)] := hl
  have hS : va_S (zb_A g) s.heap s.heap [] := va_S.rf
  obtain ⟨H, hH⟩ : ∃ H, H = s.heap := ⟨_, rfl⟩
  obtain ⟨locs, hlocs⟩ : ∃ z : List Loc, z = [] := ⟨_, rfl⟩
  rw [← hH] at hP
  have hS : va_S (zb_A g) s.heap H locs := by rw [hH, hlocs]; exact hS
  show W p l e _ s m args below meth c s.heap [] 0 0 _ _
  rw [← hH, ← hlocs]
  rw [fX8_refused] at hf
  refine lv_aload_n hx hb dX8_refused_0 rfl (lv_at hl 0 rfl) ?_
  refine gf_X8_29 X hnJ hP zk_306 dX8_refused_1 ?_
  refine lv_iload_n hx hb dX8_refused_4 rfl (lv_at hl 1 rfl) ?_
  refine lv_dup2_11 hx hb dX8_refused_5 rfl rfl ?_
  obtain ⟨x1, hx1, hf⟩ := ob_e hf
  refine zr_aldJ X hP hnJ zk_313 hx1 dX8_refused_6 ?_
  refine lv_iconst (v := (1 : Int32)) hx hb dX8_refused_7 (by decide) ?_
  refine lv_iadd hx hb dX8_refused_8 ?_
  obtain ⟨J2, hJ2, hf⟩ := ob_e hf
  refine zr_astJ X hP hS hnJ zk_313 hJ2 dX8_refused_9 (fun H locs hP hS => ?_)
  refine lv_iload_n hx hb dX8_refused_10 rfl (lv_at hl 1 rfl) ?_
  refine lv_ineg hx hb dX8_refused_11 ?_
  cases hf
  exact zr_iret X hr hP hS dX8_refused_12
set_option maxHeartbeats 4000000 in
set_option maxRecDepth 100000 in
theorem ct_X8_reports {g : zb_G} {nc : Nat} (hnJ : 318 ≤ nc) (l : Launch) {a1 : Int32} {a2 : Int32} {I J O : Mem} {r9 : Int32} {Jq : Mem} (hf : fX8_reports a1 a2 J = some (r9, Jq)) : zb_Ct l g nc yX8_reports cX8_reports 3 (some .int) 2 45 [.ref (g.2.2 + 306), .int a1, .int a2] (zb_ce g I J O) (some (.int r9)) (zb_ce g I Jq O) := by
  refine zb_ofW (own := RX8) (by decide +kernel) rfl (Nat.le_of_ble_eq_true rfl) ?_
  intro p e s m args below meth c ls X hr hP hl
  have hx := X.1.1
  have hb := X.1.2.1
  have ho := X.1.2.2.2.1
  have hts := X.1.2.2.2.2
  have hZ := X.2.2.2
  have hl : lv_has ls 3 [(0, .ref (g.2.2 + 306)), (1, .int a1), (2, .int a2)] := hl
  have hS : va_S (zb_A g) s.heap s.heap [] := va_S.rf
  obtain ⟨H, hH⟩ : ∃ H, H = s.heap := ⟨_, rfl⟩
  obtain ⟨locs, hlocs⟩ : ∃ z : List Loc, z = [] := ⟨_, rfl⟩
  rw [← hH] at hP
  have hS : va_S (zb_A g) s.heap H locs := by rw [hH, hlocs]; exact hS
  show W p l e _ s m args below meth c s.heap [] 0 0 _ _
  rw [← hH, ← hlocs]
  rw [fX8_reports] at hf
  refine lv_aload_n hx hb dX8_reports_0 rfl (lv_at hl 0 rfl) ?_
  obtain ⟨J1, hJ1, hf⟩ := ob_e hf
  refine zr_cVv (rest := []) (As := []) X hP hS (ct_X8_keeps (g := g) (nc := nc) (I := I) (J := J) (O := O) hnJ l  hJ1) cw_X8_304 (zr_recv X hP (Nat.lt_of_lt_of_le (zk_306).2.1 hnJ) (zb_ceJo zk_306 (by decide)) rfl) rfl hl.1 (Nat.le_of_ble_eq_true rfl) ⟨Nat.le_of_ble_eq_true rfl, Nat.le_of_ble_eq_true rfl⟩ ⟨Nat.le_of_ble_eq_true rfl, Nat.le_of_ble_eq_true rfl⟩ dX8_reports_1 rfl (fun H locs hP hS => ?_)
  refine lv_aload_n hx hb dX8_reports_4 rfl (lv_at hl 0 rfl) ?_
  refine gf_X8_7 X hnJ hP zk_306 dX8_reports_5 ?_
  refine lv_bipush (v := (92 : Int32)) hx hb dX8_reports_8 (by decide) ?_
  refine lv_iload_n hx hb dX8_reports_10 rfl (lv_at hl 1 rfl) ?_
  refine lv_iadd hx hb dX8_reports_11 ?_
  refine lv_iconst (v := (1 : Int32)) hx hb dX8_reports_12 (by decide) ?_
  obtain ⟨J2, hJ2, hf⟩ := ob_e hf
  refine zr_astJ X hP hS hnJ zk_307 hJ2 dX8_reports_13 (fun H locs hP hS => ?_)
  refine lv_aload_n hx hb dX8_reports_14 rfl (lv_at hl 0 rfl) ?_
  refine gf_X8_7 X hnJ hP zk_306 dX8_reports_15 ?_
  refine lv_bipush (v := (102 : Int32)) hx hb dX8_reports_18 (by decide) ?_
  refine lv_iload_n hx hb dX8_reports_20 rfl (lv_at hl 1 rfl) ?_
  refine lv_iadd hx hb dX8_reports_21 ?_
  refine lv_iload_n hx hb dX8_reports_22 rfl (lv_at hl 2 rfl) ?_
  obtain ⟨J3, hJ3, hf⟩ := ob_e hf
  refine zr_astJ X hP hS hnJ zk_307 hJ3 dX8_reports_23 (fun H locs hP hS => ?_)
  refine lv_aload_n hx hb dX8_reports_24 rfl (lv_at hl 0 rfl) ?_
  refine lv_iconst (v := (-1 : Int32)) hx hb dX8_reports_25 (by decide) ?_
  obtain ⟨x4, J5, hx4_J5, hf⟩ := ob2_e hf
  refine zr_cVi (rest := []) (As := [.int (-1 : Int32)]) X hP hS (ct_X8_reporters (g := g) (nc := nc) (I := I) (J := J3) (O := O) hnJ l  hx4_J5) cw_X8_225 (zr_recv X hP (Nat.lt_of_lt_of_le (zk_306).2.1 hnJ) (zb_ceJo zk_306 (by decide)) rfl) rfl hl.1 (Nat.le_of_ble_eq_true rfl) ⟨Nat.le_of_ble_eq_true rfl, Nat.le_of_ble_eq_true rfl⟩ ⟨Nat.le_of_ble_eq_true rfl, Nat.le_of_ble_eq_true rfl⟩ dX8_reports_26 rfl (fun H locs hP hS => ?_)
  obtain ⟨x6, hx6, hf⟩ := ob_e hf
  refine zr_cSi (rest := []) (As := [.int x4]) X hP hS (ct_X8_bits (g := g) (nc := nc) (I := I) (J := J5) (O := O)  l  hx6) cw_X8_243  rfl hl.1 (Nat.le_of_ble_eq_true rfl) ⟨Nat.le_of_ble_eq_true rfl, Nat.le_of_ble_eq_true rfl⟩ ⟨Nat.le_of_ble_eq_true rfl, Nat.le_of_ble_eq_true rfl⟩ dX8_reports_29 rfl (fun H locs hP hS => ?_)
  cases hf
  exact zr_iret X hr hP hS dX8_reports_32
set_option maxHeartbeats 4000000 in
set_option maxRecDepth 100000 in
theorem ct_X8_report {g : zb_G} {nc : Nat} (hnJ : 318 ≤ nc) (l : Launch) {a1 : Int32} {a2 : Int32} {I J O : Mem} {r9 : Int32} {Jq : Mem} (hf : fX8_report a1 a2 J = some (r9, Jq)) : zb_Ct l g nc yX8_report cX8_report 3 (some .int) 3 67 [.ref (g.2.2 + 306), .int a1, .int a2] (zb_ce g I J O) (some (.int r9)) (zb_ce g I Jq O) := by
  refine zb_ofW (own := RX8) (by decide +kernel) rfl (Nat.le_of_ble_eq_true rfl) ?_
  intro p e s m args below meth c ls X hr hP hl
  have hx := X.1.1
  have hb := X.1.2.1
  have ho := X.1.2.2.2.1
  have hts := X.1.2.2.2.2
  have hZ := X.2.2.2
  have hl : lv_has ls 3 [(0, .ref (g.2.2 + 306)), (1, .int a1), (2, .int a2)] := hl
  have hS : va_S (zb_A g) s.heap s.heap [] := va_S.rf
  obtain ⟨H, hH⟩ : ∃ H, H = s.heap := ⟨_, rfl⟩
  obtain ⟨locs, hlocs⟩ : ∃ z : List Loc, z = [] := ⟨_, rfl⟩
  rw [← hH] at hP
  have hS : va_S (zb_A g) s.heap H locs := by rw [hH, hlocs]; exact hS
  show W p l e _ s m args below meth c s.heap [] 0 0 _ _
  rw [← hH, ← hlocs]
  rw [fX8_report] at hf
  refine lv_aload_n hx hb dX8_report_0 rfl (lv_at hl 0 rfl) ?_
  refine lv_iconst (v := (0 : Int32)) hx hb dX8_report_1 (by decide) ?_
  refine pf_X8_57 X hnJ hP hS zk_306 dX8_report_2 (fun H locs hP hS => ?_)
  refine lv_aload_n hx hb dX8_report_5 rfl (lv_at hl 0 rfl) ?_
  refine lv_iload_n hx hb dX8_report_6 rfl (lv_at hl 1 rfl) ?_
  obtain ⟨x1, J2, hx1_J2, hf⟩ := ob2_e hf
  refine zr_cVi (rest := []) (As := [.int a1]) X hP hS (ct_X8_noBuoy (g := g) (nc := nc) (I := I) (J := (wr J 306 0 (0 : Int32))) (O := O) hnJ l  hx1_J2) cw_X8_255 (zr_recv X hP (Nat.lt_of_lt_of_le (zk_306).2.1 hnJ) (zb_ceJo zk_306 (by decide)) rfl) rfl hl.1 (Nat.le_of_ble_eq_true rfl) ⟨Nat.le_of_ble_eq_true rfl, Nat.le_of_ble_eq_true rfl⟩ ⟨Nat.le_of_ble_eq_true rfl, Nat.le_of_ble_eq_true rfl⟩ dX8_report_7 rfl (fun H locs hP hS => ?_)
  obtain ⟨x9, J10, ht, hf⟩ := ob2_e hf
  have K1 : ∀ (H : Heap) (locs : List Loc) (ls : Array Slot), va_P g.1 vwCl (zb_ws g nc (zb_ce g I J10 O)) H → va_S (zb_A g) s.heap H locs → lv_has ls 3 [] → W p l e { frames := 3, cells := 0, slots := 0, locals := 67 } s m args below meth c H locs 0 0 (MQ below (zb_Po g nc (zb_ce g I Jq O) (some (.int r9))) args s 0 0 (zb_A g)) (F0 m 49 ls [.int x9]) := by
    intro H locs ls hP hS hl
    cases hf
    exact zr_iret X hr hP hS dX8_report_49
  have hf := ht
  refine lv_if_ne (tgt := 39) hx hb dX8_report_10 (by decide) (fun hc => ?_) (fun hc => ?_)
  · have hf := if_f hc hf
    refine lv_iconst (v := (0 : Int32)) hx hb dX8_report_39 (by decide) ?_
    refine lv_goto (tgt := 49) hx hb dX8_report_40 (by decide) ?_
    cases hf
    exact K1 H locs ls hP hS (lv_sub hl [] rfl)
  · have hf := if_t hc hf
    refine lv_aload_n hx hb dX8_report_13 rfl (lv_at hl 0 rfl) ?_
    refine lv_iload_n hx hb dX8_report_14 rfl (lv_at hl 2 rfl) ?_
    refine lv_sipush (v := (-9999 : Int32)) hx hb dX8_report_15 (by decide) ?_
    refine lv_sipush (v := (9999 : Int32)) hx hb dX8_report_18 (by decide) ?_
    obtain ⟨x3, hx3, hf⟩ := ob_e hf
    refine zr_cSi (rest := [.ref (g.2.2 + 306)]) (As := [.int a2, .int (-9999 : Int32), .int (9999 : Int32)]) X hP hS (ct_X8_within (g := g) (nc := nc) (I := I) (J := J2) (O := O)  l  hx3) cw_X8_60  rfl hl.1 (Nat.le_of_ble_eq_true rfl) ⟨Nat.le_of_ble_eq_true rfl, Nat.le_of_ble_eq_true rfl⟩ ⟨Nat.le_of_ble_eq_true rfl, Nat.le_of_ble_eq_true rfl⟩ dX8_report_21 rfl (fun H locs hP hS => ?_)
    obtain ⟨x4, ht, hf⟩ := pl_e hf
    have K2 : ∀ (H : Heap) (locs : List Loc) (ls : Array Slot), va_P g.1 vwCl (zb_ws g nc (zb_ce g I J2 O)) H → va_S (zb_A g) s.heap H locs → lv_has ls 3 [(0, .ref (g.2.2 + 306)), (1, .int a1), (2, .int a2)] → W p l e { frames := 3, cells := 0, slots := 0, locals := 67 } s m args below meth c H locs 0 0 (MQ below (zb_Po g nc (zb_ce g I Jq O) (some (.int r9))) args s 0 0 (zb_A g)) (F0 m 32 ls [.int x4, .ref (g.2.2 + 306)]) := by
      intro H locs ls hP hS hl
      refine lv_iconst (v := (2 : Int32)) hx hb dX8_report_32 (by decide) ?_
      obtain ⟨x5, J6, hx5_J6, hf⟩ := ob2_e hf
      refine zr_cVi (rest := []) (As := [.int x4, .int (2 : Int32)]) X hP hS (ct_X8_throwsIf (g := g) (nc := nc) (I := I) (J := J2) (O := O) hnJ l  hx5_J6) cw_X8_64 (zr_recv X hP (Nat.lt_of_lt_of_le (zk_306).2.1 hnJ) (zb_ceJo zk_306 (by decide)) rfl) rfl hl.1 (Nat.le_of_ble_eq_true rfl) ⟨Nat.le_of_ble_eq_true rfl, Nat.le_of_ble_eq_true rfl⟩ ⟨Nat.le_of_ble_eq_true rfl, Nat.le_of_ble_eq_true rfl⟩ dX8_report_33 rfl (fun H locs hP hS => ?_)
      refine lv_if_eq (tgt := 43) hx hb dX8_report_36 (by decide) (fun hc => ?_) (fun hc => ?_)
      · have hf := if_t hc hf
        refine lv_aload_n hx hb dX8_report_43 rfl (lv_at hl 0 rfl) ?_
        refine lv_iload_n hx hb dX8_report_44 rfl (lv_at hl 1 rfl) ?_
        refine lv_iload_n hx hb dX8_report_45 rfl (lv_at hl 2 rfl) ?_
        obtain ⟨x7, J8, hx7_J8, hf⟩ := ob2_e hf
        refine zr_cVi (rest := []) (As := [.int a1, .int a2]) X hP hS (ct_X8_reports (g := g) (nc := nc) (I := I) (J := J6) (O := O) hnJ l  hx7_J8) cw_X8_307 (zr_recv X hP (Nat.lt_of_lt_of_le (zk_306).2.1 hnJ) (zb_ceJo zk_306 (by decide)) rfl) rfl hl.1 (Nat.le_of_ble_eq_true rfl) ⟨Nat.le_of_ble_eq_true rfl, Nat.le_of_ble_eq_true rfl⟩ ⟨Nat.le_of_ble_eq_true rfl, Nat.le_of_ble_eq_true rfl⟩ dX8_report_46 rfl (fun H locs hP hS => ?_)
        cases hf
        exact K1 H locs ls hP hS (lv_sub hl [] rfl)
      · have hf := if_f hc hf
        refine lv_iconst (v := (0 : Int32)) hx hb dX8_report_39 (by decide) ?_
        refine lv_goto (tgt := 49) hx hb dX8_report_40 (by decide) ?_
        cases hf
        exact K1 H locs ls hP hS (lv_sub hl [] rfl)
    have hf := ht
    refine lv_if_ne (tgt := 31) hx hb dX8_report_24 (by decide) (fun hc => ?_) (fun hc => ?_)
    · have hf := if_f hc hf
      refine lv_iconst (v := (0 : Int32)) hx hb dX8_report_31 (by decide) ?_
      cases hf
      exact K2 H locs ls hP hS (lv_sub hl [0, 1, 2] rfl)
    · have hf := if_t hc hf
      refine lv_iconst (v := (1 : Int32)) hx hb dX8_report_27 (by decide) ?_
      refine lv_goto (tgt := 32) hx hb dX8_report_28 (by decide) ?_
      cases hf
      exact K2 H locs ls hP hS (lv_sub hl [0, 1, 2] rfl)
set_option maxHeartbeats 4000000 in
set_option maxRecDepth 100000 in
theorem ct_X8_endsHour {g : zb_G} {nc : Nat} (hnJ : 318 ≤ nc) (l : Launch) {I J O : Mem} {r9 : Int32} {Jq : Mem} (hf : fX8_endsHour J = some (r9, Jq)) : zb_Ct l g nc yX8_endsHour cX8_endsHour 1 (some .int) 5 120 [.ref (g.2.2 + 306)] (zb_ce g I J O) (some (.int r9)) (zb_ce g I Jq O) := by
  refine zb_ofW (own := RX8) (by decide +kernel) rfl (Nat.le_of_ble_eq_true rfl) ?_
  intro p e s m args below meth c ls X hr hP hl
  have hx := X.1.1
  have hb := X.1.2.1
  have ho := X.1.2.2.2.1
  have hts := X.1.2.2.2.2
  have hZ := X.2.2.2
  have hl : lv_has ls 1 [(0, .ref (g.2.2 + 306))] := hl
  have hS : va_S (zb_A g) s.heap s.heap [] := va_S.rf
  obtain ⟨H, hH⟩ : ∃ H, H = s.heap := ⟨_, rfl⟩
  obtain ⟨locs, hlocs⟩ : ∃ z : List Loc, z = [] := ⟨_, rfl⟩
  rw [← hH] at hP
  have hS : va_S (zb_A g) s.heap H locs := by rw [hH, hlocs]; exact hS
  show W p l e _ s m args below meth c s.heap [] 0 0 _ _
  rw [← hH, ← hlocs]
  rw [fX8_endsHour] at hf
  refine lv_aload_n hx hb dX8_endsHour_0 rfl (lv_at hl 0 rfl) ?_
  obtain ⟨J1, hJ1, hf⟩ := ob_e hf
  refine zr_cVv (rest := []) (As := []) X hP hS (ct_X8_keeps (g := g) (nc := nc) (I := I) (J := J) (O := O) hnJ l  hJ1) cw_X8_304 (zr_recv X hP (Nat.lt_of_lt_of_le (zk_306).2.1 hnJ) (zb_ceJo zk_306 (by decide)) rfl) rfl hl.1 (Nat.le_of_ble_eq_true rfl) ⟨Nat.le_of_ble_eq_true rfl, Nat.le_of_ble_eq_true rfl⟩ ⟨Nat.le_of_ble_eq_true rfl, Nat.le_of_ble_eq_true rfl⟩ dX8_endsHour_1 rfl (fun H locs hP hS => ?_)
  refine lv_aload_n hx hb dX8_endsHour_4 rfl (lv_at hl 0 rfl) ?_
  obtain ⟨x2, J3, hx2_J3, hf⟩ := ob2_e hf
  refine zr_cVi (rest := []) (As := []) X hP hS (ct_X8_ends (g := g) (nc := nc) (I := I) (J := J1) (O := O) hnJ l  hx2_J3) cw_X8_310 (zr_recv X hP (Nat.lt_of_lt_of_le (zk_306).2.1 hnJ) (zb_ceJo zk_306 (by decide)) rfl) rfl hl.1 (Nat.le_of_ble_eq_true rfl) ⟨Nat.le_of_ble_eq_true rfl, Nat.le_of_ble_eq_true rfl⟩ ⟨Nat.le_of_ble_eq_true rfl, Nat.le_of_ble_eq_true rfl⟩ dX8_endsHour_5 rfl (fun H locs hP hS => ?_)
  cases hf
  exact zr_iret X hr hP hS dX8_endsHour_8
set_option maxHeartbeats 4000000 in
set_option maxRecDepth 100000 in
theorem ct_X8_endHour {g : zb_G} {nc : Nat} (hnJ : 318 ≤ nc) (l : Launch) {I J O : Mem} {r9 : Int32} {Jq : Mem} (hf : fX8_endHour J = some (r9, Jq)) : zb_Ct l g nc yX8_endHour cX8_endHour 1 (some .int) 6 140 [.ref (g.2.2 + 306)] (zb_ce g I J O) (some (.int r9)) (zb_ce g I Jq O) := by
  refine zb_ofW (own := RX8) (by decide +kernel) rfl (Nat.le_of_ble_eq_true rfl) ?_
  intro p e s m args below meth c ls X hr hP hl
  have hx := X.1.1
  have hb := X.1.2.1
  have ho := X.1.2.2.2.1
  have hts := X.1.2.2.2.2
  have hZ := X.2.2.2
  have hl : lv_has ls 1 [(0, .ref (g.2.2 + 306))] := hl
  have hS : va_S (zb_A g) s.heap s.heap [] := va_S.rf
  obtain ⟨H, hH⟩ : ∃ H, H = s.heap := ⟨_, rfl⟩
  obtain ⟨locs, hlocs⟩ : ∃ z : List Loc, z = [] := ⟨_, rfl⟩
  rw [← hH] at hP
  have hS : va_S (zb_A g) s.heap H locs := by rw [hH, hlocs]; exact hS
  show W p l e _ s m args below meth c s.heap [] 0 0 _ _
  rw [← hH, ← hlocs]
  rw [fX8_endHour] at hf
  refine lv_aload_n hx hb dX8_endHour_0 rfl (lv_at hl 0 rfl) ?_
  refine lv_iconst (v := (0 : Int32)) hx hb dX8_endHour_1 (by decide) ?_
  refine pf_X8_57 X hnJ hP hS zk_306 dX8_endHour_2 (fun H locs hP hS => ?_)
  refine lv_aload_n hx hb dX8_endHour_5 rfl (lv_at hl 0 rfl) ?_
  obtain ⟨x1, J2, hx1_J2, hf⟩ := ob2_e hf
  refine zr_cVi (rest := []) (As := []) X hP hS (ct_X8_endsHour (g := g) (nc := nc) (I := I) (J := (wr J 306 0 (0 : Int32))) (O := O) hnJ l  hx1_J2) cw_X8_313 (zr_recv X hP (Nat.lt_of_lt_of_le (zk_306).2.1 hnJ) (zb_ceJo zk_306 (by decide)) rfl) rfl hl.1 (Nat.le_of_ble_eq_true rfl) ⟨Nat.le_of_ble_eq_true rfl, Nat.le_of_ble_eq_true rfl⟩ ⟨Nat.le_of_ble_eq_true rfl, Nat.le_of_ble_eq_true rfl⟩ dX8_endHour_6 rfl (fun H locs hP hS => ?_)
  cases hf
  exact zr_iret X hr hP hS dX8_endHour_9
set_option maxHeartbeats 4000000 in
set_option maxRecDepth 100000 in
theorem ct_X8_suspects {g : zb_G} {nc : Nat} (hnJ : 318 ≤ nc) (l : Launch) {a1 : Int32} {I J O : Mem} {Jq : Mem} (hf : fX8_suspects a1 J = some Jq) : zb_Ct l g nc yX8_suspects cX8_suspects 2 none 0 0 [.ref (g.2.2 + 306), .int a1] (zb_ce g I J O) none (zb_ce g I Jq O) := by
  refine zb_ofW (own := RX8) (by decide +kernel) rfl (Nat.le_of_ble_eq_true rfl) ?_
  intro p e s m args below meth c ls X hr hP hl
  have hx := X.1.1
  have hb := X.1.2.1
  have ho := X.1.2.2.2.1
  have hts := X.1.2.2.2.2
  have hZ := X.2.2.2
  have hl : lv_has ls 2 [(0, .ref (g.2.2 + 306)), (1, .int a1)] := hl
  have hS : va_S (zb_A g) s.heap s.heap [] := va_S.rf
  obtain ⟨H, hH⟩ : ∃ H, H = s.heap := ⟨_, rfl⟩
  obtain ⟨locs, hlocs⟩ : ∃ z : List Loc, z = [] := ⟨_, rfl⟩
  rw [← hH] at hP
  have hS : va_S (zb_A g) s.heap H locs := by rw [hH, hlocs]; exact hS
  show W p l e _ s m args below meth c s.heap [] 0 0 _ _
  rw [← hH, ← hlocs]
  rw [fX8_suspects] at hf
  refine lv_aload_n hx hb dX8_suspects_0 rfl (lv_at hl 0 rfl) ?_
  refine gf_X8_7 X hnJ hP zk_306 dX8_suspects_1 ?_
  refine lv_bipush (v := (52 : Int32)) hx hb dX8_suspects_4 (by decide) ?_
  refine lv_iload_n hx hb dX8_suspects_6 rfl (lv_at hl 1 rfl) ?_
  refine lv_iadd hx hb dX8_suspects_7 ?_
  refine lv_iconst (v := (1 : Int32)) hx hb dX8_suspects_8 (by decide) ?_
  obtain ⟨J1, hJ1, hf⟩ := ob_e hf
  refine zr_astJ X hP hS hnJ zk_307 hJ1 dX8_suspects_9 (fun H locs hP hS => ?_)
  refine lv_aload_n hx hb dX8_suspects_10 rfl (lv_at hl 0 rfl) ?_
  refine gf_X8_7 X hnJ hP zk_306 dX8_suspects_11 ?_
  refine lv_bipush (v := (62 : Int32)) hx hb dX8_suspects_14 (by decide) ?_
  refine lv_iload_n hx hb dX8_suspects_16 rfl (lv_at hl 1 rfl) ?_
  refine lv_iadd hx hb dX8_suspects_17 ?_
  refine lv_iconst (v := (0 : Int32)) hx hb dX8_suspects_18 (by decide) ?_
  obtain ⟨J2, hJ2, hf⟩ := ob_e hf
  refine zr_astJ X hP hS hnJ zk_307 hJ2 dX8_suspects_19 (fun H locs hP hS => ?_)
  refine lv_aload_n hx hb dX8_suspects_20 rfl (lv_at hl 0 rfl) ?_
  refine gf_X8_7 X hnJ hP zk_306 dX8_suspects_21 ?_
  refine lv_bipush (v := (72 : Int32)) hx hb dX8_suspects_24 (by decide) ?_
  refine lv_iload_n hx hb dX8_suspects_26 rfl (lv_at hl 1 rfl) ?_
  refine lv_iadd hx hb dX8_suspects_27 ?_
  refine lv_iconst (v := (0 : Int32)) hx hb dX8_suspects_28 (by decide) ?_
  obtain ⟨J3, hJ3, hf⟩ := ob_e hf
  refine zr_astJ X hP hS hnJ zk_307 hJ3 dX8_suspects_29 (fun H locs hP hS => ?_)
  refine lv_aload_n hx hb dX8_suspects_30 rfl (lv_at hl 0 rfl) ?_
  refine gf_X8_7 X hnJ hP zk_306 dX8_suspects_31 ?_
  refine lv_bipush (v := (82 : Int32)) hx hb dX8_suspects_34 (by decide) ?_
  refine lv_iload_n hx hb dX8_suspects_36 rfl (lv_at hl 1 rfl) ?_
  refine lv_iadd hx hb dX8_suspects_37 ?_
  refine lv_iconst (v := (-1 : Int32)) hx hb dX8_suspects_38 (by decide) ?_
  obtain ⟨J4, hJ4, hf⟩ := ob_e hf
  refine zr_astJ X hP hS hnJ zk_307 hJ4 dX8_suspects_39 (fun H locs hP hS => ?_)
  cases hf
  exact zr_vret X hr hP hS rfl dX8_suspects_40
set_option maxHeartbeats 4000000 in
set_option maxRecDepth 100000 in
theorem lpX8_storms_L16 {g : zb_G} {nc : Nat} (hnJ : 318 ≤ nc) (l : Launch) {a4 : Int32} {a1 : Int32} {a2 : Int32} {a3 : Int32} {I O : Mem} {p : Program} {e : Env} {s : State} {m : MethodId} {args : Array Value} {below : List Frame} {meth : Method} {c : Code} {Q : State → Prop} (X : zb_X g p m c cX8_storms 7 s args RX8 meth) : ∀ {n9 : Nat} {a5 : Int32} {J : Mem} {Jz : Mem} {H : Heap} {locs : List Loc} {ls : Array Slot}, fX8_storms_L16 a4 a1 a2 a3 n9 a5 J = some Jz → (∀ (H : Heap) (locs : List Loc) (ls : Array Slot), va_P g.1 vwCl (zb_ws g nc (zb_ce g I Jz O)) H → va_S (zb_A g) s.heap H locs → lv_has ls 7 [(0, .ref (g.2.2 + 306)), (1, .int a1), (2, .int a2), (3, .int a3)] → W p l e { frames := 3, cells := 0, slots := 0, locals := 73 } s m args below meth c H locs 0 0 Q (F0 m 96 ls [])) → va_P g.1 vwCl (zb_ws g nc (zb_ce g I J O)) H → va_S (zb_A g) s.heap H locs → lv_has ls 7 [(5, .int a5), (4, .int a4), (0, .ref (g.2.2 + 306)), (1, .int a1), (2, .int a2), (3, .int a3)] → W p l e { frames := 3, cells := 0, slots := 0, locals := 73 } s m args below meth c H locs 0 0 Q (F0 m 16 ls []) := by
  have hx := X.1.1
  have hb := X.1.2.1
  have ho := X.1.2.2.2.1
  have hts := X.1.2.2.2.2
  have hZ := X.2.2.2
  intro n9
  induction n9 with
  | zero =>
    intro a5 J Jz H locs ls hf
    exact nomatch hf
  | succ n9 ih =>
    intro a5 J Jz H locs ls hf KK hP hS hl
    rw [fX8_storms_L16] at hf
    refine lv_iload hx hb dX8_storms_16 (lv_at hl 0 rfl) ?_
    refine lv_iload_n hx hb dX8_storms_18 rfl (lv_at hl 5 rfl) ?_
    refine lv_icmp_ge (tgt := 96) hx hb dX8_storms_19 (by decide) (fun hc => ?_) (fun hc => ?_)
    · have hf := if_t hc hf
      cases hf
      exact KK H locs ls hP hS (lv_sub hl [2, 3, 4, 5] rfl)
    · have hf := if_f hc hf
      refine lv_aload_n hx hb dX8_storms_22 rfl (lv_at hl 2 rfl) ?_
      refine gf_X8_7 X hnJ hP zk_306 dX8_storms_23 ?_
      refine lv_bipush (v := (122 : Int32)) hx hb dX8_storms_26 (by decide) ?_
      refine lv_iload hx hb dX8_storms_28 (lv_at hl 0 rfl) ?_
      refine lv_iadd hx hb dX8_storms_30 ?_
      refine lv_dup2_11 hx hb dX8_storms_31 rfl rfl ?_
      obtain ⟨x3, hx3, hf⟩ := ob_e hf
      refine zr_aldJ X hP hnJ zk_307 hx3 dX8_storms_32 ?_
      refine lv_aload_n hx hb dX8_storms_33 rfl (lv_at hl 2 rfl) ?_
      refine gf_X8_7 X hnJ hP zk_306 dX8_storms_34 ?_
      refine lv_sipush (v := (132 : Int32)) hx hb dX8_storms_37 (by decide) ?_
      refine lv_iload hx hb dX8_storms_40 (lv_at hl 0 rfl) ?_
      refine lv_iadd hx hb dX8_storms_42 ?_
      obtain ⟨x4, hx4, hf⟩ := ob_e hf
      refine zr_aldJ X hP hnJ zk_307 hx4 dX8_storms_43 ?_
      obtain ⟨x5, ht, hf⟩ := pl_e hf
      have K1 : ∀ (H : Heap) (locs : List Loc) (ls : Array Slot), va_P g.1 vwCl (zb_ws g nc (zb_ce g I J O)) H → va_S (zb_A g) s.heap H locs → lv_has ls 7 [(5, .int a5), (4, .int a4), (0, .ref (g.2.2 + 306)), (1, .int a1), (2, .int a2), (3, .int a3)] → W p l e { frames := 3, cells := 0, slots := 0, locals := 73 } s m args below meth c H locs 0 0 Q (F0 m 52 ls [.int x5, .int x3, .int ((122 : Int32) + a5), .ref (g.2.2 + 307)]) := by
        intro H locs ls hP hS hl
        refine lv_iadd hx hb dX8_storms_52 ?_
        obtain ⟨J6, hJ6, hf⟩ := ob_e hf
        refine zr_astJ X hP hS hnJ zk_307 hJ6 dX8_storms_53 (fun H locs hP hS => ?_)
        refine lv_aload_n hx hb dX8_storms_54 rfl (lv_at hl 2 rfl) ?_
        refine gf_X8_7 X hnJ hP zk_306 dX8_storms_55 ?_
        refine lv_sipush (v := (132 : Int32)) hx hb dX8_storms_58 (by decide) ?_
        refine lv_iload hx hb dX8_storms_61 (lv_at hl 0 rfl) ?_
        refine lv_iadd hx hb dX8_storms_63 ?_
        refine lv_iload hx hb dX8_storms_64 (lv_at hl 1 rfl) ?_
        refine lv_iload hx hb dX8_storms_66 (lv_at hl 0 rfl) ?_
        obtain ⟨x7, hx7, hf⟩ := ob_e hf
        refine zr_cSi (rest := [.int ((132 : Int32) + a5), .ref (g.2.2 + 307)]) (As := [.int a4, .int a5]) X hP hS (ct_X8_has (g := g) (nc := nc) (I := I) (J := J6) (O := O)  l  hx7) cw_X8_176  rfl hl.1 (Nat.le_of_ble_eq_true rfl) ⟨Nat.le_of_ble_eq_true rfl, Nat.le_of_ble_eq_true rfl⟩ ⟨Nat.le_of_ble_eq_true rfl, Nat.le_of_ble_eq_true rfl⟩ dX8_storms_68 rfl (fun H locs hP hS => ?_)
        obtain ⟨x9, ht, hf⟩ := ob_e hf
        have K2 : ∀ (H : Heap) (locs : List Loc) (ls : Array Slot), va_P g.1 vwCl (zb_ws g nc (zb_ce g I J6 O)) H → va_S (zb_A g) s.heap H locs → lv_has ls 7 [(5, .int a5), (4, .int a4), (0, .ref (g.2.2 + 306)), (1, .int a1), (2, .int a2), (3, .int a3)] → W p l e { frames := 3, cells := 0, slots := 0, locals := 73 } s m args below meth c H locs 0 0 Q (F0 m 89 ls [.int x9, .int ((132 : Int32) + a5), .ref (g.2.2 + 307)]) := by
          intro H locs ls hP hS hl
          obtain ⟨J10, hJ10, hf⟩ := ob_e hf
          refine zr_astJ X hP hS hnJ zk_307 hJ10 dX8_storms_89 (fun H locs hP hS => ?_)
          refine lv_iinc (v := (a5 + (1 : Int32))) (lv' := [(5, .int (a5 + (1 : Int32))), (4, .int a4), (0, .ref (g.2.2 + 306)), (1, .int a1), (2, .int a2), (3, .int a3)]) hx hb dX8_storms_90 hl (k := 0) rfl rfl (by decide) rfl (fun ls hl => ?_)
          refine lv_goto (tgt := 16) hx hb dX8_storms_93 (by decide) ?_
          exact ih hf KK hP hS (lv_sub hl [0, 1, 2, 3, 4, 5] rfl)
        have hf := ht
        refine lv_if_eq (tgt := 78) hx hb dX8_storms_71 (by decide) (fun hc => ?_) (fun hc => ?_)
        · have hf := if_t hc hf
          refine lv_aload_n hx hb dX8_storms_78 rfl (lv_at hl 2 rfl) ?_
          refine gf_X8_7 X hnJ hP zk_306 dX8_storms_79 ?_
          refine lv_sipush (v := (132 : Int32)) hx hb dX8_storms_82 (by decide) ?_
          refine lv_iload hx hb dX8_storms_85 (lv_at hl 0 rfl) ?_
          refine lv_iadd hx hb dX8_storms_87 ?_
          obtain ⟨x8, hx8, hf⟩ := ob_e hf
          refine zr_aldJ X hP hnJ zk_307 hx8 dX8_storms_88 ?_
          cases hf
          exact K2 H locs ls hP hS (lv_sub hl [0, 1, 2, 3, 4, 5] rfl)
        · have hf := if_f hc hf
          refine lv_iconst (v := (1 : Int32)) hx hb dX8_storms_74 (by decide) ?_
          refine lv_goto (tgt := 89) hx hb dX8_storms_75 (by decide) ?_
          cases hf
          exact K2 H locs ls hP hS (lv_sub hl [0, 1, 2, 3, 4, 5] rfl)
      have hf := ht
      refine lv_if_ne (tgt := 51) hx hb dX8_storms_44 (by decide) (fun hc => ?_) (fun hc => ?_)
      · have hf := if_f hc hf
        refine lv_iconst (v := (0 : Int32)) hx hb dX8_storms_51 (by decide) ?_
        cases hf
        exact K1 H locs ls hP hS (lv_sub hl [0, 1, 2, 3, 4, 5] rfl)
      · have hf := if_t hc hf
        refine lv_iload_n hx hb dX8_storms_47 rfl (lv_at hl 3 rfl) ?_
        refine lv_goto (tgt := 52) hx hb dX8_storms_48 (by decide) ?_
        cases hf
        exact K1 H locs ls hP hS (lv_sub hl [0, 1, 2, 3, 4, 5] rfl)
set_option maxHeartbeats 4000000 in
set_option maxRecDepth 100000 in
theorem lpX8_storms_L112 {g : zb_G} {nc : Nat} (hnJ : 318 ≤ nc) (l : Launch) {a5 : Int32} {I O : Mem} {p : Program} {e : Env} {s : State} {m : MethodId} {args : Array Value} {below : List Frame} {meth : Method} {c : Code} {Q : State → Prop} (X : zb_X g p m c cX8_storms 7 s args RX8 meth) : ∀ {n9 : Nat} {a6 : Int32} {J : Mem} {Jz : Mem} {H : Heap} {locs : List Loc} {ls : Array Slot}, fX8_storms_L112 a5 n9 a6 J = some Jz → (∀ (H : Heap) (locs : List Loc) (ls : Array Slot), va_P g.1 vwCl (zb_ws g nc (zb_ce g I Jz O)) H → va_S (zb_A g) s.heap H locs → lv_has ls 7 [(5, .int a5), (0, .ref (g.2.2 + 306))] → W p l e { frames := 3, cells := 0, slots := 0, locals := 73 } s m args below meth c H locs 0 0 Q (F0 m 159 ls [])) → va_P g.1 vwCl (zb_ws g nc (zb_ce g I J O)) H → va_S (zb_A g) s.heap H locs → lv_has ls 7 [(6, .int a6), (5, .int a5), (0, .ref (g.2.2 + 306))] → W p l e { frames := 3, cells := 0, slots := 0, locals := 73 } s m args below meth c H locs 0 0 Q (F0 m 112 ls []) := by
  have hx := X.1.1
  have hb := X.1.2.1
  have ho := X.1.2.2.2.1
  have hts := X.1.2.2.2.2
  have hZ := X.2.2.2
  intro n9
  induction n9 with
  | zero =>
    intro a6 J Jz H locs ls hf
    exact nomatch hf
  | succ n9 ih =>
    intro a6 J Jz H locs ls hf KK hP hS hl
    rw [fX8_storms_L112] at hf
    refine lv_iload hx hb dX8_storms_112 (lv_at hl 0 rfl) ?_
    refine lv_aload_n hx hb dX8_storms_114 rfl (lv_at hl 2 rfl) ?_
    refine gf_X8_7 X hnJ hP zk_306 dX8_storms_115 ?_
    refine lv_iconst (v := (0 : Int32)) hx hb dX8_storms_118 (by decide) ?_
    obtain ⟨x14, hx14, hf⟩ := ob_e hf
    refine zr_aldJ X hP hnJ zk_307 hx14 dX8_storms_119 ?_
    refine lv_icmp_ge (tgt := 159) hx hb dX8_storms_120 (by decide) (fun hc => ?_) (fun hc => ?_)
    · have hf := if_t hc hf
      cases hf
      exact KK H locs ls hP hS (lv_sub hl [1, 2] rfl)
    · have hf := if_f hc hf
      refine lv_iload hx hb dX8_storms_123 (lv_at hl 1 rfl) ?_
      refine lv_iload hx hb dX8_storms_125 (lv_at hl 0 rfl) ?_
      obtain ⟨x15, hx15, hf⟩ := ob_e hf
      refine zr_cSi (rest := []) (As := [.int a5, .int a6]) X hP hS (ct_X8_has (g := g) (nc := nc) (I := I) (J := J) (O := O)  l  hx15) cw_X8_176  rfl hl.1 (Nat.le_of_ble_eq_true rfl) ⟨Nat.le_of_ble_eq_true rfl, Nat.le_of_ble_eq_true rfl⟩ ⟨Nat.le_of_ble_eq_true rfl, Nat.le_of_ble_eq_true rfl⟩ dX8_storms_127 rfl (fun H locs hP hS => ?_)
      obtain ⟨J18, ht, hf⟩ := ob_e hf
      have K3 : ∀ (H : Heap) (locs : List Loc) (ls : Array Slot), va_P g.1 vwCl (zb_ws g nc (zb_ce g I J18 O)) H → va_S (zb_A g) s.heap H locs → lv_has ls 7 [(6, .int a6), (5, .int a5), (0, .ref (g.2.2 + 306))] → W p l e { frames := 3, cells := 0, slots := 0, locals := 73 } s m args below meth c H locs 0 0 Q (F0 m 153 ls []) := by
        intro H locs ls hP hS hl
        refine lv_iinc (v := (a6 + (1 : Int32))) (lv' := [(6, .int (a6 + (1 : Int32))), (5, .int a5), (0, .ref (g.2.2 + 306))]) hx hb dX8_storms_153 hl (k := 0) rfl rfl (by decide) rfl (fun ls hl => ?_)
        refine lv_goto (tgt := 112) hx hb dX8_storms_156 (by decide) ?_
        exact ih hf KK hP hS (lv_sub hl [0, 1, 2] rfl)
      have hf := ht
      refine lv_if_eq (tgt := 153) hx hb dX8_storms_130 (by decide) (fun hc => ?_) (fun hc => ?_)
      · have hf := if_t hc hf
        cases hf
        exact K3 H locs ls hP hS (lv_sub hl [0, 1, 2] rfl)
      · have hf := if_f hc hf
        refine lv_aload_n hx hb dX8_storms_133 rfl (lv_at hl 2 rfl) ?_
        refine gf_X8_7 X hnJ hP zk_306 dX8_storms_134 ?_
        refine lv_bipush (v := (52 : Int32)) hx hb dX8_storms_137 (by decide) ?_
        refine lv_iload hx hb dX8_storms_139 (lv_at hl 0 rfl) ?_
        refine lv_iadd hx hb dX8_storms_141 ?_
        obtain ⟨x16, hx16, hf⟩ := ob_e hf
        refine zr_aldJ X hP hnJ zk_307 hx16 dX8_storms_142 ?_
        refine lv_iconst (v := (2 : Int32)) hx hb dX8_storms_143 (by decide) ?_
        refine lv_icmp_eq (tgt := 153) hx hb dX8_storms_144 (by decide) (fun hc => ?_) (fun hc => ?_)
        · have hf := if_t hc hf
          cases hf
          exact K3 H locs ls hP hS (lv_sub hl [0, 1, 2] rfl)
        · have hf := if_f hc hf
          refine lv_aload_n hx hb dX8_storms_147 rfl (lv_at hl 2 rfl) ?_
          refine lv_iload hx hb dX8_storms_148 (lv_at hl 0 rfl) ?_
          obtain ⟨J17, hJ17, hf⟩ := ob_e hf
          refine zr_cVv (rest := []) (As := [.int a6]) X hP hS (ct_X8_suspects (g := g) (nc := nc) (I := I) (J := J) (O := O) hnJ l  hJ17) cw_X8_316 (zr_recv X hP (Nat.lt_of_lt_of_le (zk_306).2.1 hnJ) (zb_ceJo zk_306 (by decide)) rfl) rfl hl.1 (Nat.le_of_ble_eq_true rfl) ⟨Nat.le_of_ble_eq_true rfl, Nat.le_of_ble_eq_true rfl⟩ ⟨Nat.le_of_ble_eq_true rfl, Nat.le_of_ble_eq_true rfl⟩ dX8_storms_150 rfl (fun H locs hP hS => ?_)
          cases hf
          exact K3 H locs ls hP hS (lv_sub hl [0, 1, 2] rfl)
set_option maxHeartbeats 4000000 in
set_option maxRecDepth 100000 in
theorem ct_X8_storms {g : zb_G} {nc : Nat} (hnJ : 318 ≤ nc) (l : Launch) {a1 : Int32} {a2 : Int32} {a3 : Int32} {I J O : Mem} {r9 : Int32} {Jq : Mem} (hf : fX8_storms a1 a2 a3 J = some (r9, Jq)) : zb_Ct l g nc yX8_storms cX8_storms 7 (some .int) 3 73 [.ref (g.2.2 + 306), .int a1, .int a2, .int a3] (zb_ce g I J O) (some (.int r9)) (zb_ce g I Jq O) := by
  refine zb_ofW (own := RX8) (by decide +kernel) rfl (Nat.le_of_ble_eq_true rfl) ?_
  intro p e s m args below meth c ls X hr hP hl
  have hx := X.1.1
  have hb := X.1.2.1
  have ho := X.1.2.2.2.1
  have hts := X.1.2.2.2.2
  have hZ := X.2.2.2
  have hl : lv_has ls 7 [(0, .ref (g.2.2 + 306)), (1, .int a1), (2, .int a2), (3, .int a3)] := hl
  have hS : va_S (zb_A g) s.heap s.heap [] := va_S.rf
  obtain ⟨H, hH⟩ : ∃ H, H = s.heap := ⟨_, rfl⟩
  obtain ⟨locs, hlocs⟩ : ∃ z : List Loc, z = [] := ⟨_, rfl⟩
  rw [← hH] at hP
  have hS : va_S (zb_A g) s.heap H locs := by rw [hH, hlocs]; exact hS
  show W p l e _ s m args below meth c s.heap [] 0 0 _ _
  rw [← hH, ← hlocs]
  rw [fX8_storms] at hf
  refine lv_aload_n hx hb dX8_storms_0 rfl (lv_at hl 0 rfl) ?_
  obtain ⟨J1, hJ1, hf⟩ := ob_e hf
  refine zr_cVv (rest := []) (As := []) X hP hS (ct_X8_keeps (g := g) (nc := nc) (I := I) (J := J) (O := O) hnJ l  hJ1) cw_X8_304 (zr_recv X hP (Nat.lt_of_lt_of_le (zk_306).2.1 hnJ) (zb_ceJo zk_306 (by decide)) rfl) rfl hl.1 (Nat.le_of_ble_eq_true rfl) ⟨Nat.le_of_ble_eq_true rfl, Nat.le_of_ble_eq_true rfl⟩ ⟨Nat.le_of_ble_eq_true rfl, Nat.le_of_ble_eq_true rfl⟩ dX8_storms_1 rfl (fun H locs hP hS => ?_)
  refine lv_aload_n hx hb dX8_storms_4 rfl (lv_at hl 0 rfl) ?_
  refine lv_iload_n hx hb dX8_storms_5 rfl (lv_at hl 1 rfl) ?_
  refine lv_iload_n hx hb dX8_storms_6 rfl (lv_at hl 2 rfl) ?_
  refine lv_iload_n hx hb dX8_storms_7 rfl (lv_at hl 3 rfl) ?_
  obtain ⟨x2, hx2, hf⟩ := ob_e hf
  refine zr_cVi (rest := []) (As := [.int a1, .int a2, .int a3]) X hP hS (ct_X8_breaks (g := g) (nc := nc) (I := I) (J := J1) (O := O) hnJ l  hx2) cw_X8_279 (zr_recv X hP (Nat.lt_of_lt_of_le (zk_306).2.1 hnJ) (zb_ceJo zk_306 (by decide)) rfl) rfl hl.1 (Nat.le_of_ble_eq_true rfl) ⟨Nat.le_of_ble_eq_true rfl, Nat.le_of_ble_eq_true rfl⟩ ⟨Nat.le_of_ble_eq_true rfl, Nat.le_of_ble_eq_true rfl⟩ dX8_storms_8 rfl (fun H locs hP hS => ?_)
  refine lv_istore (lv' := [(4, .int x2), (0, .ref (g.2.2 + 306)), (1, .int a1), (2, .int a2), (3, .int a3)]) hx hb dX8_storms_11 hl (by decide) rfl (fun ls hl => ?_)
  refine lv_iload_n hx hb dX8_storms_13 rfl (lv_at hl 3 rfl) ?_
  refine lv_istore (lv' := [(5, .int a2), (4, .int x2), (0, .ref (g.2.2 + 306)), (1, .int a1), (2, .int a2), (3, .int a3)]) hx hb dX8_storms_14 hl (by decide) rfl (fun ls hl => ?_)
  obtain ⟨J11, hJ11, hf⟩ := ob_e hf
  have K4 : ∀ (H : Heap) (locs : List Loc) (ls : Array Slot), va_P g.1 vwCl (zb_ws g nc (zb_ce g I J11 O)) H → va_S (zb_A g) s.heap H locs → lv_has ls 7 [(0, .ref (g.2.2 + 306)), (1, .int a1), (2, .int a2), (3, .int a3)] → W p l e { frames := 3, cells := 0, slots := 0, locals := 73 } s m args below meth c H locs 0 0 (MQ below (zb_Po g nc (zb_ce g I Jq O) (some (.int r9))) args s 0 0 (zb_A g)) (F0 m 96 ls []) := by
    intro H locs ls hP hS hl
    refine lv_aload_n hx hb dX8_storms_96 rfl (lv_at hl 0 rfl) ?_
    refine lv_iload_n hx hb dX8_storms_97 rfl (lv_at hl 1 rfl) ?_
    refine lv_iload_n hx hb dX8_storms_98 rfl (lv_at hl 2 rfl) ?_
    refine lv_iload_n hx hb dX8_storms_99 rfl (lv_at hl 3 rfl) ?_
    refine lv_aload_n hx hb dX8_storms_100 rfl (lv_at hl 0 rfl) ?_
    obtain ⟨x12, hx12, hf⟩ := ob_e hf
    refine zr_cVi (rest := [.int a3, .int a2, .int a1, .ref (g.2.2 + 306)]) (As := []) X hP hS (ct_X8_brokenSet (g := g) (nc := nc) (I := I) (J := J11) (O := O) hnJ l  hx12) cw_X8_249 (zr_recv X hP (Nat.lt_of_lt_of_le (zk_306).2.1 hnJ) (zb_ceJo zk_306 (by decide)) rfl) rfl hl.1 (Nat.le_of_ble_eq_true rfl) ⟨Nat.le_of_ble_eq_true rfl, Nat.le_of_ble_eq_true rfl⟩ ⟨Nat.le_of_ble_eq_true rfl, Nat.le_of_ble_eq_true rfl⟩ dX8_storms_101 rfl (fun H locs hP hS => ?_)
    obtain ⟨x13, hx13, hf⟩ := ob_e hf
    refine zr_cVi (rest := []) (As := [.int a1, .int a2, .int a3, .int x12]) X hP hS (ct_X8_drifts (g := g) (nc := nc) (I := I) (J := J11) (O := O) hnJ l  hx13) cw_X8_283 (zr_recv X hP (Nat.lt_of_lt_of_le (zk_306).2.1 hnJ) (zb_ceJo zk_306 (by decide)) rfl) rfl hl.1 (Nat.le_of_ble_eq_true rfl) ⟨Nat.le_of_ble_eq_true rfl, Nat.le_of_ble_eq_true rfl⟩ ⟨Nat.le_of_ble_eq_true rfl, Nat.le_of_ble_eq_true rfl⟩ dX8_storms_104 rfl (fun H locs hP hS => ?_)
    refine lv_istore (lv' := [(5, .int x13), (0, .ref (g.2.2 + 306)), (1, .int a1), (2, .int a2), (3, .int a3)]) hx hb dX8_storms_107 hl (by decide) rfl (fun ls hl => ?_)
    refine lv_iconst (v := (0 : Int32)) hx hb dX8_storms_109 (by decide) ?_
    refine lv_istore (lv' := [(6, .int (0 : Int32)), (5, .int x13), (0, .ref (g.2.2 + 306)), (1, .int a1), (2, .int a2), (3, .int a3)]) hx hb dX8_storms_110 hl (by decide) rfl (fun ls hl => ?_)
    obtain ⟨J19, hJ19, hf⟩ := ob_e hf
    have K5 : ∀ (H : Heap) (locs : List Loc) (ls : Array Slot), va_P g.1 vwCl (zb_ws g nc (zb_ce g I J19 O)) H → va_S (zb_A g) s.heap H locs → lv_has ls 7 [(5, .int x13), (0, .ref (g.2.2 + 306))] → W p l e { frames := 3, cells := 0, slots := 0, locals := 73 } s m args below meth c H locs 0 0 (MQ below (zb_Po g nc (zb_ce g I Jq O) (some (.int r9))) args s 0 0 (zb_A g)) (F0 m 159 ls []) := by
      intro H locs ls hP hS hl
      refine lv_aload_n hx hb dX8_storms_159 rfl (lv_at hl 1 rfl) ?_
      refine gf_X8_7 X hnJ hP zk_306 dX8_storms_160 ?_
      refine lv_bipush (v := (7 : Int32)) hx hb dX8_storms_163 (by decide) ?_
      refine lv_dup2_11 hx hb dX8_storms_165 rfl rfl ?_
      obtain ⟨x20, hx20, hf⟩ := ob_e hf
      refine zr_aldJ X hP hnJ zk_307 hx20 dX8_storms_166 ?_
      refine lv_iconst (v := (1 : Int32)) hx hb dX8_storms_167 (by decide) ?_
      refine lv_iadd hx hb dX8_storms_168 ?_
      obtain ⟨J21, hJ21, hf⟩ := ob_e hf
      refine zr_astJ X hP hS hnJ zk_307 hJ21 dX8_storms_169 (fun H locs hP hS => ?_)
      refine lv_iload hx hb dX8_storms_170 (lv_at hl 0 rfl) ?_
      cases hf
      exact zr_iret X hr hP hS dX8_storms_172
    exact lpX8_storms_L112 hnJ l  X hJ19 K5 hP hS (lv_sub hl [0, 1, 2] rfl)
  exact lpX8_storms_L16 hnJ l  X hJ11 K4 hP hS (lv_sub hl [0, 1, 2, 3, 4, 5] rfl)
set_option maxHeartbeats 4000000 in
set_option maxRecDepth 100000 in
theorem ct_X8_storm {g : zb_G} {nc : Nat} (hnJ : 318 ≤ nc) (l : Launch) {a1 : Int32} {a2 : Int32} {a3 : Int32} {I J O : Mem} {r9 : Int32} {Jq : Mem} (hf : fX8_storm a1 a2 a3 J = some (r9, Jq)) : zb_Ct l g nc yX8_storm cX8_storm 4 (some .int) 4 99 [.ref (g.2.2 + 306), .int a1, .int a2, .int a3] (zb_ce g I J O) (some (.int r9)) (zb_ce g I Jq O) := by
  refine zb_ofW (own := RX8) (by decide +kernel) rfl (Nat.le_of_ble_eq_true rfl) ?_
  intro p e s m args below meth c ls X hr hP hl
  have hx := X.1.1
  have hb := X.1.2.1
  have ho := X.1.2.2.2.1
  have hts := X.1.2.2.2.2
  have hZ := X.2.2.2
  have hl : lv_has ls 4 [(0, .ref (g.2.2 + 306)), (1, .int a1), (2, .int a2), (3, .int a3)] := hl
  have hS : va_S (zb_A g) s.heap s.heap [] := va_S.rf
  obtain ⟨H, hH⟩ : ∃ H, H = s.heap := ⟨_, rfl⟩
  obtain ⟨locs, hlocs⟩ : ∃ z : List Loc, z = [] := ⟨_, rfl⟩
  rw [← hH] at hP
  have hS : va_S (zb_A g) s.heap H locs := by rw [hH, hlocs]; exact hS
  show W p l e _ s m args below meth c s.heap [] 0 0 _ _
  rw [← hH, ← hlocs]
  rw [fX8_storm] at hf
  refine lv_aload_n hx hb dX8_storm_0 rfl (lv_at hl 0 rfl) ?_
  refine lv_iconst (v := (0 : Int32)) hx hb dX8_storm_1 (by decide) ?_
  refine pf_X8_57 X hnJ hP hS zk_306 dX8_storm_2 (fun H locs hP hS => ?_)
  refine lv_aload_n hx hb dX8_storm_5 rfl (lv_at hl 0 rfl) ?_
  refine lv_iload_n hx hb dX8_storm_6 rfl (lv_at hl 1 rfl) ?_
  refine lv_iload_n hx hb dX8_storm_7 rfl (lv_at hl 2 rfl) ?_
  refine lv_iload_n hx hb dX8_storm_8 rfl (lv_at hl 3 rfl) ?_
  obtain ⟨x1, J2, hx1_J2, hf⟩ := ob2_e hf
  refine zr_cVi (rest := []) (As := [.int a1, .int a2, .int a3]) X hP hS (ct_X8_noStorm (g := g) (nc := nc) (I := I) (J := (wr J 306 0 (0 : Int32))) (O := O) hnJ l  hx1_J2) cw_X8_276 (zr_recv X hP (Nat.lt_of_lt_of_le (zk_306).2.1 hnJ) (zb_ceJo zk_306 (by decide)) rfl) rfl hl.1 (Nat.le_of_ble_eq_true rfl) ⟨Nat.le_of_ble_eq_true rfl, Nat.le_of_ble_eq_true rfl⟩ ⟨Nat.le_of_ble_eq_true rfl, Nat.le_of_ble_eq_true rfl⟩ dX8_storm_9 rfl (fun H locs hP hS => ?_)
  obtain ⟨x5, J6, ht, hf⟩ := ob2_e hf
  have K1 : ∀ (H : Heap) (locs : List Loc) (ls : Array Slot), va_P g.1 vwCl (zb_ws g nc (zb_ce g I J6 O)) H → va_S (zb_A g) s.heap H locs → lv_has ls 4 [] → W p l e { frames := 4, cells := 0, slots := 0, locals := 99 } s m args below meth c H locs 0 0 (MQ below (zb_Po g nc (zb_ce g I Jq O) (some (.int r9))) args s 0 0 (zb_A g)) (F0 m 26 ls [.int x5]) := by
    intro H locs ls hP hS hl
    cases hf
    exact zr_iret X hr hP hS dX8_storm_26
  have hf := ht
  refine lv_if_eq (tgt := 19) hx hb dX8_storm_12 (by decide) (fun hc => ?_) (fun hc => ?_)
  · have hf := if_t hc hf
    refine lv_aload_n hx hb dX8_storm_19 rfl (lv_at hl 0 rfl) ?_
    refine lv_iload_n hx hb dX8_storm_20 rfl (lv_at hl 1 rfl) ?_
    refine lv_iload_n hx hb dX8_storm_21 rfl (lv_at hl 2 rfl) ?_
    refine lv_iload_n hx hb dX8_storm_22 rfl (lv_at hl 3 rfl) ?_
    obtain ⟨x3, J4, hx3_J4, hf⟩ := ob2_e hf
    refine zr_cVi (rest := []) (As := [.int a1, .int a2, .int a3]) X hP hS (ct_X8_storms (g := g) (nc := nc) (I := I) (J := J2) (O := O) hnJ l  hx3_J4) cw_X8_319 (zr_recv X hP (Nat.lt_of_lt_of_le (zk_306).2.1 hnJ) (zb_ceJo zk_306 (by decide)) rfl) rfl hl.1 (Nat.le_of_ble_eq_true rfl) ⟨Nat.le_of_ble_eq_true rfl, Nat.le_of_ble_eq_true rfl⟩ ⟨Nat.le_of_ble_eq_true rfl, Nat.le_of_ble_eq_true rfl⟩ dX8_storm_23 rfl (fun H locs hP hS => ?_)
    cases hf
    exact K1 H locs ls hP hS (lv_sub hl [] rfl)
  · have hf := if_f hc hf
    refine lv_iconst (v := (0 : Int32)) hx hb dX8_storm_15 (by decide) ?_
    refine lv_goto (tgt := 26) hx hb dX8_storm_16 (by decide) ?_
    cases hf
    exact K1 H locs ls hP hS (lv_sub hl [] rfl)
set_option maxHeartbeats 4000000 in
set_option maxRecDepth 100000 in
theorem ct_X8_renews {g : zb_G} {nc : Nat} (hnJ : 318 ≤ nc) (l : Launch) {a1 : Int32} {I J O : Mem} {Jq : Mem} (hf : fX8_renews a1 J = some Jq) : zb_Ct l g nc yX8_renews cX8_renews 2 none 1 21 [.ref (g.2.2 + 306), .int a1] (zb_ce g I J O) none (zb_ce g I Jq O) := by
  refine zb_ofW (own := RX8) (by decide +kernel) rfl (Nat.le_of_ble_eq_true rfl) ?_
  intro p e s m args below meth c ls X hr hP hl
  have hx := X.1.1
  have hb := X.1.2.1
  have ho := X.1.2.2.2.1
  have hts := X.1.2.2.2.2
  have hZ := X.2.2.2
  have hl : lv_has ls 2 [(0, .ref (g.2.2 + 306)), (1, .int a1)] := hl
  have hS : va_S (zb_A g) s.heap s.heap [] := va_S.rf
  obtain ⟨H, hH⟩ : ∃ H, H = s.heap := ⟨_, rfl⟩
  obtain ⟨locs, hlocs⟩ : ∃ z : List Loc, z = [] := ⟨_, rfl⟩
  rw [← hH] at hP
  have hS : va_S (zb_A g) s.heap H locs := by rw [hH, hlocs]; exact hS
  show W p l e _ s m args below meth c s.heap [] 0 0 _ _
  rw [← hH, ← hlocs]
  rw [fX8_renews] at hf
  refine lv_aload_n hx hb dX8_renews_0 rfl (lv_at hl 0 rfl) ?_
  refine gf_X8_7 X hnJ hP zk_306 dX8_renews_1 ?_
  refine lv_iconst (v := (4 : Int32)) hx hb dX8_renews_4 (by decide) ?_
  refine lv_dup2_11 hx hb dX8_renews_5 rfl rfl ?_
  obtain ⟨x1, hx1, hf⟩ := ob_e hf
  refine zr_aldJ X hP hnJ zk_307 hx1 dX8_renews_6 ?_
  refine lv_aload_n hx hb dX8_renews_7 rfl (lv_at hl 0 rfl) ?_
  refine lv_iload_n hx hb dX8_renews_8 rfl (lv_at hl 1 rfl) ?_
  obtain ⟨x2, hx2, hf⟩ := ob_e hf
  refine zr_cVi (rest := [.int x1, .int (4 : Int32), .ref (g.2.2 + 307)]) (As := [.int a1]) X hP hS (ct_X8_long0 (g := g) (nc := nc) (I := I) (J := J) (O := O) hnJ l  hx2) cw_X8_261 (zr_recv X hP (Nat.lt_of_lt_of_le (zk_306).2.1 hnJ) (zb_ceJo zk_306 (by decide)) rfl) rfl hl.1 (Nat.le_of_ble_eq_true rfl) ⟨Nat.le_of_ble_eq_true rfl, Nat.le_of_ble_eq_true rfl⟩ ⟨Nat.le_of_ble_eq_true rfl, Nat.le_of_ble_eq_true rfl⟩ dX8_renews_9 rfl (fun H locs hP hS => ?_)
  refine lv_isub hx hb dX8_renews_12 ?_
  obtain ⟨J3, hJ3, hf⟩ := ob_e hf
  refine zr_astJ X hP hS hnJ zk_307 hJ3 dX8_renews_13 (fun H locs hP hS => ?_)
  refine lv_aload_n hx hb dX8_renews_14 rfl (lv_at hl 0 rfl) ?_
  refine gf_X8_7 X hnJ hP zk_306 dX8_renews_15 ?_
  refine lv_bipush (v := (10 : Int32)) hx hb dX8_renews_18 (by decide) ?_
  refine lv_dup2_11 hx hb dX8_renews_20 rfl rfl ?_
  obtain ⟨x4, hx4, hf⟩ := ob_e hf
  refine zr_aldJ X hP hnJ zk_307 hx4 dX8_renews_21 ?_
  refine lv_aload_n hx hb dX8_renews_22 rfl (lv_at hl 0 rfl) ?_
  refine lv_iload_n hx hb dX8_renews_23 rfl (lv_at hl 1 rfl) ?_
  obtain ⟨x5, hx5, hf⟩ := ob_e hf
  refine zr_cVi (rest := [.int x4, .int (10 : Int32), .ref (g.2.2 + 307)]) (As := [.int a1]) X hP hS (ct_X8_long0 (g := g) (nc := nc) (I := I) (J := J3) (O := O) hnJ l  hx5) cw_X8_261 (zr_recv X hP (Nat.lt_of_lt_of_le (zk_306).2.1 hnJ) (zb_ceJo zk_306 (by decide)) rfl) rfl hl.1 (Nat.le_of_ble_eq_true rfl) ⟨Nat.le_of_ble_eq_true rfl, Nat.le_of_ble_eq_true rfl⟩ ⟨Nat.le_of_ble_eq_true rfl, Nat.le_of_ble_eq_true rfl⟩ dX8_renews_24 rfl (fun H locs hP hS => ?_)
  refine lv_iadd hx hb dX8_renews_27 ?_
  obtain ⟨J6, hJ6, hf⟩ := ob_e hf
  refine zr_astJ X hP hS hnJ zk_307 hJ6 dX8_renews_28 (fun H locs hP hS => ?_)
  refine lv_aload_n hx hb dX8_renews_29 rfl (lv_at hl 0 rfl) ?_
  refine gf_X8_7 X hnJ hP zk_306 dX8_renews_30 ?_
  refine lv_sipush (v := (132 : Int32)) hx hb dX8_renews_33 (by decide) ?_
  refine lv_iload_n hx hb dX8_renews_36 rfl (lv_at hl 1 rfl) ?_
  refine lv_iadd hx hb dX8_renews_37 ?_
  refine lv_iconst (v := (0 : Int32)) hx hb dX8_renews_38 (by decide) ?_
  obtain ⟨J7, hJ7, hf⟩ := ob_e hf
  refine zr_astJ X hP hS hnJ zk_307 hJ7 dX8_renews_39 (fun H locs hP hS => ?_)
  refine lv_aload_n hx hb dX8_renews_40 rfl (lv_at hl 0 rfl) ?_
  refine gf_X8_7 X hnJ hP zk_306 dX8_renews_41 ?_
  refine lv_bipush (v := (122 : Int32)) hx hb dX8_renews_44 (by decide) ?_
  refine lv_iload_n hx hb dX8_renews_46 rfl (lv_at hl 1 rfl) ?_
  refine lv_iadd hx hb dX8_renews_47 ?_
  refine lv_iconst (v := (0 : Int32)) hx hb dX8_renews_48 (by decide) ?_
  obtain ⟨J8, hJ8, hf⟩ := ob_e hf
  refine zr_astJ X hP hS hnJ zk_307 hJ8 dX8_renews_49 (fun H locs hP hS => ?_)
  cases hf
  exact zr_vret X hr hP hS rfl dX8_renews_50
set_option maxHeartbeats 4000000 in
set_option maxRecDepth 100000 in
theorem ct_X8_remakes {g : zb_G} {nc : Nat} (hnJ : 318 ≤ nc) (l : Launch) {a1 : Int32} {I J O : Mem} {r9 : Int32} {Jq : Mem} (hf : fX8_remakes a1 J = some (r9, Jq)) : zb_Ct l g nc yX8_remakes cX8_remakes 2 (some .int) 2 45 [.ref (g.2.2 + 306), .int a1] (zb_ce g I J O) (some (.int r9)) (zb_ce g I Jq O) := by
  refine zb_ofW (own := RX8) (by decide +kernel) rfl (Nat.le_of_ble_eq_true rfl) ?_
  intro p e s m args below meth c ls X hr hP hl
  have hx := X.1.1
  have hb := X.1.2.1
  have ho := X.1.2.2.2.1
  have hts := X.1.2.2.2.2
  have hZ := X.2.2.2
  have hl : lv_has ls 2 [(0, .ref (g.2.2 + 306)), (1, .int a1)] := hl
  have hS : va_S (zb_A g) s.heap s.heap [] := va_S.rf
  obtain ⟨H, hH⟩ : ∃ H, H = s.heap := ⟨_, rfl⟩
  obtain ⟨locs, hlocs⟩ : ∃ z : List Loc, z = [] := ⟨_, rfl⟩
  rw [← hH] at hP
  have hS : va_S (zb_A g) s.heap H locs := by rw [hH, hlocs]; exact hS
  show W p l e _ s m args below meth c s.heap [] 0 0 _ _
  rw [← hH, ← hlocs]
  rw [fX8_remakes] at hf
  refine lv_aload_n hx hb dX8_remakes_0 rfl (lv_at hl 0 rfl) ?_
  refine gf_X8_7 X hnJ hP zk_306 dX8_remakes_1 ?_
  refine lv_sipush (v := (132 : Int32)) hx hb dX8_remakes_4 (by decide) ?_
  refine lv_iload_n hx hb dX8_remakes_7 rfl (lv_at hl 1 rfl) ?_
  refine lv_iadd hx hb dX8_remakes_8 ?_
  obtain ⟨x1, hx1, hf⟩ := ob_e hf
  refine zr_aldJ X hP hnJ zk_307 hx1 dX8_remakes_9 ?_
  refine lv_if_ne (tgt := 31) hx hb dX8_remakes_10 (by decide) (fun hc => ?_) (fun hc => ?_)
  · have hf := if_f hc hf
    refine lv_aload_n hx hb dX8_remakes_31 rfl (lv_at hl 0 rfl) ?_
    refine lv_iload_n hx hb dX8_remakes_32 rfl (lv_at hl 1 rfl) ?_
    obtain ⟨x2, hx2, hf⟩ := ob_e hf
    refine zr_cVi (rest := []) (As := [.int a1]) X hP hS (ct_X8_long0 (g := g) (nc := nc) (I := I) (J := J) (O := O) hnJ l  hx2) cw_X8_261 (zr_recv X hP (Nat.lt_of_lt_of_le (zk_306).2.1 hnJ) (zb_ceJo zk_306 (by decide)) rfl) rfl hl.1 (Nat.le_of_ble_eq_true rfl) ⟨Nat.le_of_ble_eq_true rfl, Nat.le_of_ble_eq_true rfl⟩ ⟨Nat.le_of_ble_eq_true rfl, Nat.le_of_ble_eq_true rfl⟩ dX8_remakes_33 rfl (fun H locs hP hS => ?_)
    refine lv_aload_n hx hb dX8_remakes_36 rfl (lv_at hl 0 rfl) ?_
    refine gf_X8_7 X hnJ hP zk_306 dX8_remakes_37 ?_
    refine lv_iconst (v := (4 : Int32)) hx hb dX8_remakes_40 (by decide) ?_
    obtain ⟨x3, hx3, hf⟩ := ob_e hf
    refine zr_aldJ X hP hnJ zk_307 hx3 dX8_remakes_41 ?_
    refine lv_icmp_le (tgt := 51) hx hb dX8_remakes_42 (by decide) (fun hc => ?_) (fun hc => ?_)
    · have hf := if_t hc hf
      refine lv_aload_n hx hb dX8_remakes_51 rfl (lv_at hl 0 rfl) ?_
      obtain ⟨J4, hJ4, hf⟩ := ob_e hf
      refine zr_cVv (rest := []) (As := []) X hP hS (ct_X8_keeps (g := g) (nc := nc) (I := I) (J := J) (O := O) hnJ l  hJ4) cw_X8_304 (zr_recv X hP (Nat.lt_of_lt_of_le (zk_306).2.1 hnJ) (zb_ceJo zk_306 (by decide)) rfl) rfl hl.1 (Nat.le_of_ble_eq_true rfl) ⟨Nat.le_of_ble_eq_true rfl, Nat.le_of_ble_eq_true rfl⟩ ⟨Nat.le_of_ble_eq_true rfl, Nat.le_of_ble_eq_true rfl⟩ dX8_remakes_52 rfl (fun H locs hP hS => ?_)
      refine lv_aload_n hx hb dX8_remakes_55 rfl (lv_at hl 0 rfl) ?_
      refine lv_iload_n hx hb dX8_remakes_56 rfl (lv_at hl 1 rfl) ?_
      obtain ⟨J5, hJ5, hf⟩ := ob_e hf
      refine zr_cVv (rest := []) (As := [.int a1]) X hP hS (ct_X8_renews (g := g) (nc := nc) (I := I) (J := J4) (O := O) hnJ l  hJ5) cw_X8_325 (zr_recv X hP (Nat.lt_of_lt_of_le (zk_306).2.1 hnJ) (zb_ceJo zk_306 (by decide)) rfl) rfl hl.1 (Nat.le_of_ble_eq_true rfl) ⟨Nat.le_of_ble_eq_true rfl, Nat.le_of_ble_eq_true rfl⟩ ⟨Nat.le_of_ble_eq_true rfl, Nat.le_of_ble_eq_true rfl⟩ dX8_remakes_57 rfl (fun H locs hP hS => ?_)
      refine lv_aload_n hx hb dX8_remakes_60 rfl (lv_at hl 0 rfl) ?_
      refine gf_X8_7 X hnJ hP zk_306 dX8_remakes_61 ?_
      refine lv_iconst (v := (4 : Int32)) hx hb dX8_remakes_64 (by decide) ?_
      obtain ⟨x6, hx6, hf⟩ := ob_e hf
      refine zr_aldJ X hP hnJ zk_307 hx6 dX8_remakes_65 ?_
      cases hf
      exact zr_iret X hr hP hS dX8_remakes_66
    · have hf := if_f hc hf
      refine lv_aload_n hx hb dX8_remakes_45 rfl (lv_at hl 0 rfl) ?_
      refine lv_iconst (v := (2 : Int32)) hx hb dX8_remakes_46 (by decide) ?_
      obtain ⟨x7, J8, hx7_J8, hf⟩ := ob2_e hf
      refine zr_cVi (rest := []) (As := [.int (2 : Int32)]) X hP hS (ct_X8_refused (g := g) (nc := nc) (I := I) (J := J) (O := O) hnJ l  hx7_J8) cw_X8_322 (zr_recv X hP (Nat.lt_of_lt_of_le (zk_306).2.1 hnJ) (zb_ceJo zk_306 (by decide)) rfl) rfl hl.1 (Nat.le_of_ble_eq_true rfl) ⟨Nat.le_of_ble_eq_true rfl, Nat.le_of_ble_eq_true rfl⟩ ⟨Nat.le_of_ble_eq_true rfl, Nat.le_of_ble_eq_true rfl⟩ dX8_remakes_47 rfl (fun H locs hP hS => ?_)
      cases hf
      exact zr_iret X hr hP hS dX8_remakes_50
  · have hf := if_t hc hf
    refine lv_aload_n hx hb dX8_remakes_13 rfl (lv_at hl 0 rfl) ?_
    refine gf_X8_7 X hnJ hP zk_306 dX8_remakes_14 ?_
    refine lv_bipush (v := (122 : Int32)) hx hb dX8_remakes_17 (by decide) ?_
    refine lv_iload_n hx hb dX8_remakes_19 rfl (lv_at hl 1 rfl) ?_
    refine lv_iadd hx hb dX8_remakes_20 ?_
    obtain ⟨x9, hx9, hf⟩ := ob_e hf
    refine zr_aldJ X hP hnJ zk_307 hx9 dX8_remakes_21 ?_
    refine lv_if_ne (tgt := 31) hx hb dX8_remakes_22 (by decide) (fun hc => ?_) (fun hc => ?_)
    · have hf := if_f hc hf
      refine lv_aload_n hx hb dX8_remakes_31 rfl (lv_at hl 0 rfl) ?_
      refine lv_iload_n hx hb dX8_remakes_32 rfl (lv_at hl 1 rfl) ?_
      obtain ⟨x10, hx10, hf⟩ := ob_e hf
      refine zr_cVi (rest := []) (As := [.int a1]) X hP hS (ct_X8_long0 (g := g) (nc := nc) (I := I) (J := J) (O := O) hnJ l  hx10) cw_X8_261 (zr_recv X hP (Nat.lt_of_lt_of_le (zk_306).2.1 hnJ) (zb_ceJo zk_306 (by decide)) rfl) rfl hl.1 (Nat.le_of_ble_eq_true rfl) ⟨Nat.le_of_ble_eq_true rfl, Nat.le_of_ble_eq_true rfl⟩ ⟨Nat.le_of_ble_eq_true rfl, Nat.le_of_ble_eq_true rfl⟩ dX8_remakes_33 rfl (fun H locs hP hS => ?_)
      refine lv_aload_n hx hb dX8_remakes_36 rfl (lv_at hl 0 rfl) ?_
      refine gf_X8_7 X hnJ hP zk_306 dX8_remakes_37 ?_
      refine lv_iconst (v := (4 : Int32)) hx hb dX8_remakes_40 (by decide) ?_
      obtain ⟨x11, hx11, hf⟩ := ob_e hf
      refine zr_aldJ X hP hnJ zk_307 hx11 dX8_remakes_41 ?_
      refine lv_icmp_le (tgt := 51) hx hb dX8_remakes_42 (by decide) (fun hc => ?_) (fun hc => ?_)
      · have hf := if_t hc hf
        refine lv_aload_n hx hb dX8_remakes_51 rfl (lv_at hl 0 rfl) ?_
        obtain ⟨J12, hJ12, hf⟩ := ob_e hf
        refine zr_cVv (rest := []) (As := []) X hP hS (ct_X8_keeps (g := g) (nc := nc) (I := I) (J := J) (O := O) hnJ l  hJ12) cw_X8_304 (zr_recv X hP (Nat.lt_of_lt_of_le (zk_306).2.1 hnJ) (zb_ceJo zk_306 (by decide)) rfl) rfl hl.1 (Nat.le_of_ble_eq_true rfl) ⟨Nat.le_of_ble_eq_true rfl, Nat.le_of_ble_eq_true rfl⟩ ⟨Nat.le_of_ble_eq_true rfl, Nat.le_of_ble_eq_true rfl⟩ dX8_remakes_52 rfl (fun H locs hP hS => ?_)
        refine lv_aload_n hx hb dX8_remakes_55 rfl (lv_at hl 0 rfl) ?_
        refine lv_iload_n hx hb dX8_remakes_56 rfl (lv_at hl 1 rfl) ?_
        obtain ⟨J13, hJ13, hf⟩ := ob_e hf
        refine zr_cVv (rest := []) (As := [.int a1]) X hP hS (ct_X8_renews (g := g) (nc := nc) (I := I) (J := J12) (O := O) hnJ l  hJ13) cw_X8_325 (zr_recv X hP (Nat.lt_of_lt_of_le (zk_306).2.1 hnJ) (zb_ceJo zk_306 (by decide)) rfl) rfl hl.1 (Nat.le_of_ble_eq_true rfl) ⟨Nat.le_of_ble_eq_true rfl, Nat.le_of_ble_eq_true rfl⟩ ⟨Nat.le_of_ble_eq_true rfl, Nat.le_of_ble_eq_true rfl⟩ dX8_remakes_57 rfl (fun H locs hP hS => ?_)
        refine lv_aload_n hx hb dX8_remakes_60 rfl (lv_at hl 0 rfl) ?_
        refine gf_X8_7 X hnJ hP zk_306 dX8_remakes_61 ?_
        refine lv_iconst (v := (4 : Int32)) hx hb dX8_remakes_64 (by decide) ?_
        obtain ⟨x14, hx14, hf⟩ := ob_e hf
        refine zr_aldJ X hP hnJ zk_307 hx14 dX8_remakes_65 ?_
        cases hf
        exact zr_iret X hr hP hS dX8_remakes_66
      · have hf := if_f hc hf
        refine lv_aload_n hx hb dX8_remakes_45 rfl (lv_at hl 0 rfl) ?_
        refine lv_iconst (v := (2 : Int32)) hx hb dX8_remakes_46 (by decide) ?_
        obtain ⟨x15, J16, hx15_J16, hf⟩ := ob2_e hf
        refine zr_cVi (rest := []) (As := [.int (2 : Int32)]) X hP hS (ct_X8_refused (g := g) (nc := nc) (I := I) (J := J) (O := O) hnJ l  hx15_J16) cw_X8_322 (zr_recv X hP (Nat.lt_of_lt_of_le (zk_306).2.1 hnJ) (zb_ceJo zk_306 (by decide)) rfl) rfl hl.1 (Nat.le_of_ble_eq_true rfl) ⟨Nat.le_of_ble_eq_true rfl, Nat.le_of_ble_eq_true rfl⟩ ⟨Nat.le_of_ble_eq_true rfl, Nat.le_of_ble_eq_true rfl⟩ dX8_remakes_47 rfl (fun H locs hP hS => ?_)
        cases hf
        exact zr_iret X hr hP hS dX8_remakes_50
    · have hf := if_t hc hf
      refine lv_aload_n hx hb dX8_remakes_25 rfl (lv_at hl 0 rfl) ?_
      refine lv_iconst (v := (1 : Int32)) hx hb dX8_remakes_26 (by decide) ?_
      obtain ⟨x17, J18, hx17_J18, hf⟩ := ob2_e hf
      refine zr_cVi (rest := []) (As := [.int (1 : Int32)]) X hP hS (ct_X8_refused (g := g) (nc := nc) (I := I) (J := J) (O := O) hnJ l  hx17_J18) cw_X8_322 (zr_recv X hP (Nat.lt_of_lt_of_le (zk_306).2.1 hnJ) (zb_ceJo zk_306 (by decide)) rfl) rfl hl.1 (Nat.le_of_ble_eq_true rfl) ⟨Nat.le_of_ble_eq_true rfl, Nat.le_of_ble_eq_true rfl⟩ ⟨Nat.le_of_ble_eq_true rfl, Nat.le_of_ble_eq_true rfl⟩ dX8_remakes_27 rfl (fun H locs hP hS => ?_)
      cases hf
      exact zr_iret X hr hP hS dX8_remakes_30
set_option maxHeartbeats 4000000 in
set_option maxRecDepth 100000 in
theorem ct_X8_remake {g : zb_G} {nc : Nat} (hnJ : 318 ≤ nc) (l : Launch) {a1 : Int32} {I J O : Mem} {r9 : Int32} {Jq : Mem} (hf : fX8_remake a1 J = some (r9, Jq)) : zb_Ct l g nc yX8_remake cX8_remake 2 (some .int) 3 66 [.ref (g.2.2 + 306), .int a1] (zb_ce g I J O) (some (.int r9)) (zb_ce g I Jq O) := by
  refine zb_ofW (own := RX8) (by decide +kernel) rfl (Nat.le_of_ble_eq_true rfl) ?_
  intro p e s m args below meth c ls X hr hP hl
  have hx := X.1.1
  have hb := X.1.2.1
  have ho := X.1.2.2.2.1
  have hts := X.1.2.2.2.2
  have hZ := X.2.2.2
  have hl : lv_has ls 2 [(0, .ref (g.2.2 + 306)), (1, .int a1)] := hl
  have hS : va_S (zb_A g) s.heap s.heap [] := va_S.rf
  obtain ⟨H, hH⟩ : ∃ H, H = s.heap := ⟨_, rfl⟩
  obtain ⟨locs, hlocs⟩ : ∃ z : List Loc, z = [] := ⟨_, rfl⟩
  rw [← hH] at hP
  have hS : va_S (zb_A g) s.heap H locs := by rw [hH, hlocs]; exact hS
  show W p l e _ s m args below meth c s.heap [] 0 0 _ _
  rw [← hH, ← hlocs]
  rw [fX8_remake] at hf
  refine lv_aload_n hx hb dX8_remake_0 rfl (lv_at hl 0 rfl) ?_
  refine lv_iconst (v := (0 : Int32)) hx hb dX8_remake_1 (by decide) ?_
  refine pf_X8_57 X hnJ hP hS zk_306 dX8_remake_2 (fun H locs hP hS => ?_)
  refine lv_aload_n hx hb dX8_remake_5 rfl (lv_at hl 0 rfl) ?_
  refine lv_iload_n hx hb dX8_remake_6 rfl (lv_at hl 1 rfl) ?_
  obtain ⟨x1, J2, hx1_J2, hf⟩ := ob2_e hf
  refine zr_cVi (rest := []) (As := [.int a1]) X hP hS (ct_X8_noRope (g := g) (nc := nc) (I := I) (J := (wr J 306 0 (0 : Int32))) (O := O) hnJ l  hx1_J2) cw_X8_258 (zr_recv X hP (Nat.lt_of_lt_of_le (zk_306).2.1 hnJ) (zb_ceJo zk_306 (by decide)) rfl) rfl hl.1 (Nat.le_of_ble_eq_true rfl) ⟨Nat.le_of_ble_eq_true rfl, Nat.le_of_ble_eq_true rfl⟩ ⟨Nat.le_of_ble_eq_true rfl, Nat.le_of_ble_eq_true rfl⟩ dX8_remake_7 rfl (fun H locs hP hS => ?_)
  obtain ⟨x5, J6, ht, hf⟩ := ob2_e hf
  have K1 : ∀ (H : Heap) (locs : List Loc) (ls : Array Slot), va_P g.1 vwCl (zb_ws g nc (zb_ce g I J6 O)) H → va_S (zb_A g) s.heap H locs → lv_has ls 2 [] → W p l e { frames := 3, cells := 0, slots := 0, locals := 66 } s m args below meth c H locs 0 0 (MQ below (zb_Po g nc (zb_ce g I Jq O) (some (.int r9))) args s 0 0 (zb_A g)) (F0 m 22 ls [.int x5]) := by
    intro H locs ls hP hS hl
    cases hf
    exact zr_iret X hr hP hS dX8_remake_22
  have hf := ht
  refine lv_if_eq (tgt := 17) hx hb dX8_remake_10 (by decide) (fun hc => ?_) (fun hc => ?_)
  · have hf := if_t hc hf
    refine lv_aload_n hx hb dX8_remake_17 rfl (lv_at hl 0 rfl) ?_
    refine lv_iload_n hx hb dX8_remake_18 rfl (lv_at hl 1 rfl) ?_
    obtain ⟨x3, J4, hx3_J4, hf⟩ := ob2_e hf
    refine zr_cVi (rest := []) (As := [.int a1]) X hP hS (ct_X8_remakes (g := g) (nc := nc) (I := I) (J := J2) (O := O) hnJ l  hx3_J4) cw_X8_328 (zr_recv X hP (Nat.lt_of_lt_of_le (zk_306).2.1 hnJ) (zb_ceJo zk_306 (by decide)) rfl) rfl hl.1 (Nat.le_of_ble_eq_true rfl) ⟨Nat.le_of_ble_eq_true rfl, Nat.le_of_ble_eq_true rfl⟩ ⟨Nat.le_of_ble_eq_true rfl, Nat.le_of_ble_eq_true rfl⟩ dX8_remake_19 rfl (fun H locs hP hS => ?_)
    cases hf
    exact K1 H locs ls hP hS (lv_sub hl [] rfl)
  · have hf := if_f hc hf
    refine lv_iconst (v := (0 : Int32)) hx hb dX8_remake_13 (by decide) ?_
    refine lv_goto (tgt := 22) hx hb dX8_remake_14 (by decide) ?_
    cases hf
    exact K1 H locs ls hP hS (lv_sub hl [] rfl)
set_option maxHeartbeats 4000000 in
set_option maxRecDepth 100000 in
theorem lpX8_remakesBy_L23 {g : zb_G} {nc : Nat} (hnJ : 318 ≤ nc) (l : Launch) {a2 : Int32} {I O : Mem} {p : Program} {e : Env} {s : State} {m : MethodId} {args : Array Value} {below : List Frame} {meth : Method} {c : Code} {Q : State → Prop} (X : zb_X g p m c cX8_remakesBy 4 s args RX8 meth) : ∀ {n9 : Nat} {a3 : Int32} {J : Mem} {Jz : Mem} {H : Heap} {locs : List Loc} {ls : Array Slot}, fX8_remakesBy_L23 a2 n9 a3 J = some Jz → (∀ (H : Heap) (locs : List Loc) (ls : Array Slot), va_P g.1 vwCl (zb_ws g nc (zb_ce g I Jz O)) H → va_S (zb_A g) s.heap H locs → lv_has ls 4 [(2, .int a2)] → W p l e { frames := 4, cells := 0, slots := 0, locals := 94 } s m args below meth c H locs 0 0 Q (F0 m 48 ls [])) → va_P g.1 vwCl (zb_ws g nc (zb_ce g I J O)) H → va_S (zb_A g) s.heap H locs → lv_has ls 4 [(3, .int a3), (2, .int a2), (0, .ref (g.2.2 + 306))] → W p l e { frames := 4, cells := 0, slots := 0, locals := 94 } s m args below meth c H locs 0 0 Q (F0 m 23 ls []) := by
  have hx := X.1.1
  have hb := X.1.2.1
  have ho := X.1.2.2.2.1
  have hts := X.1.2.2.2.2
  have hZ := X.2.2.2
  intro n9
  induction n9 with
  | zero =>
    intro a3 J Jz H locs ls hf
    exact nomatch hf
  | succ n9 ih =>
    intro a3 J Jz H locs ls hf KK hP hS hl
    rw [fX8_remakesBy_L23] at hf
    refine lv_iload_n hx hb dX8_remakesBy_23 rfl (lv_at hl 0 rfl) ?_
    refine lv_bipush (v := (9 : Int32)) hx hb dX8_remakesBy_24 (by decide) ?_
    refine lv_icmp_ge (tgt := 48) hx hb dX8_remakesBy_26 (by decide) (fun hc => ?_) (fun hc => ?_)
    · have hf := if_t hc hf
      cases hf
      exact KK H locs ls hP hS (lv_sub hl [1] rfl)
    · have hf := if_f hc hf
      refine lv_iload_n hx hb dX8_remakesBy_29 rfl (lv_at hl 1 rfl) ?_
      refine lv_iload_n hx hb dX8_remakesBy_30 rfl (lv_at hl 0 rfl) ?_
      obtain ⟨x3, hx3, hf⟩ := ob_e hf
      refine zr_cSi (rest := []) (As := [.int a2, .int a3]) X hP hS (ct_X8_has (g := g) (nc := nc) (I := I) (J := J) (O := O)  l  hx3) cw_X8_176  rfl hl.1 (Nat.le_of_ble_eq_true rfl) ⟨Nat.le_of_ble_eq_true rfl, Nat.le_of_ble_eq_true rfl⟩ ⟨Nat.le_of_ble_eq_true rfl, Nat.le_of_ble_eq_true rfl⟩ dX8_remakesBy_31 rfl (fun H locs hP hS => ?_)
      obtain ⟨J5, ht, hf⟩ := ob_e hf
      have K1 : ∀ (H : Heap) (locs : List Loc) (ls : Array Slot), va_P g.1 vwCl (zb_ws g nc (zb_ce g I J5 O)) H → va_S (zb_A g) s.heap H locs → lv_has ls 4 [(3, .int a3), (2, .int a2), (0, .ref (g.2.2 + 306))] → W p l e { frames := 4, cells := 0, slots := 0, locals := 94 } s m args below meth c H locs 0 0 Q (F0 m 42 ls []) := by
        intro H locs ls hP hS hl
        refine lv_iinc (v := (a3 + (1 : Int32))) (lv' := [(3, .int (a3 + (1 : Int32))), (2, .int a2), (0, .ref (g.2.2 + 306))]) hx hb dX8_remakesBy_42 hl (k := 0) rfl rfl (by decide) rfl (fun ls hl => ?_)
        refine lv_goto (tgt := 23) hx hb dX8_remakesBy_45 (by decide) ?_
        exact ih hf KK hP hS (lv_sub hl [0, 1, 2] rfl)
      have hf := ht
      refine lv_if_eq (tgt := 42) hx hb dX8_remakesBy_34 (by decide) (fun hc => ?_) (fun hc => ?_)
      · have hf := if_t hc hf
        cases hf
        exact K1 H locs ls hP hS (lv_sub hl [0, 1, 2] rfl)
      · have hf := if_f hc hf
        refine lv_aload_n hx hb dX8_remakesBy_37 rfl (lv_at hl 2 rfl) ?_
        refine lv_iload_n hx hb dX8_remakesBy_38 rfl (lv_at hl 0 rfl) ?_
        obtain ⟨J4, hJ4, hf⟩ := ob_e hf
        refine zr_cVv (rest := []) (As := [.int a3]) X hP hS (ct_X8_renews (g := g) (nc := nc) (I := I) (J := J) (O := O) hnJ l  hJ4) cw_X8_325 (zr_recv X hP (Nat.lt_of_lt_of_le (zk_306).2.1 hnJ) (zb_ceJo zk_306 (by decide)) rfl) rfl hl.1 (Nat.le_of_ble_eq_true rfl) ⟨Nat.le_of_ble_eq_true rfl, Nat.le_of_ble_eq_true rfl⟩ ⟨Nat.le_of_ble_eq_true rfl, Nat.le_of_ble_eq_true rfl⟩ dX8_remakesBy_39 rfl (fun H locs hP hS => ?_)
        cases hf
        exact K1 H locs ls hP hS (lv_sub hl [0, 1, 2] rfl)
set_option maxHeartbeats 4000000 in
set_option maxRecDepth 100000 in
theorem ct_X8_remakesBy {g : zb_G} {nc : Nat} (hnJ : 318 ≤ nc) (l : Launch) {a1 : Int32} {I J O : Mem} {r9 : Int32} {Jq : Mem} (hf : fX8_remakesBy a1 J = some (r9, Jq)) : zb_Ct l g nc yX8_remakesBy cX8_remakesBy 4 (some .int) 4 94 [.ref (g.2.2 + 306), .int a1] (zb_ce g I J O) (some (.int r9)) (zb_ce g I Jq O) := by
  refine zb_ofW (own := RX8) (by decide +kernel) rfl (Nat.le_of_ble_eq_true rfl) ?_
  intro p e s m args below meth c ls X hr hP hl
  have hx := X.1.1
  have hb := X.1.2.1
  have ho := X.1.2.2.2.1
  have hts := X.1.2.2.2.2
  have hZ := X.2.2.2
  have hl : lv_has ls 4 [(0, .ref (g.2.2 + 306)), (1, .int a1)] := hl
  have hS : va_S (zb_A g) s.heap s.heap [] := va_S.rf
  obtain ⟨H, hH⟩ : ∃ H, H = s.heap := ⟨_, rfl⟩
  obtain ⟨locs, hlocs⟩ : ∃ z : List Loc, z = [] := ⟨_, rfl⟩
  rw [← hH] at hP
  have hS : va_S (zb_A g) s.heap H locs := by rw [hH, hlocs]; exact hS
  show W p l e _ s m args below meth c s.heap [] 0 0 _ _
  rw [← hH, ← hlocs]
  rw [fX8_remakesBy] at hf
  refine lv_aload_n hx hb dX8_remakesBy_0 rfl (lv_at hl 0 rfl) ?_
  refine lv_iload_n hx hb dX8_remakesBy_1 rfl (lv_at hl 1 rfl) ?_
  obtain ⟨x1, hx1, hf⟩ := ob_e hf
  refine zr_cVi (rest := []) (As := [.int a1]) X hP hS (ct_X8_planOf (g := g) (nc := nc) (I := I) (J := J) (O := O) hnJ l  hx1) cw_X8_301 (zr_recv X hP (Nat.lt_of_lt_of_le (zk_306).2.1 hnJ) (zb_ceJo zk_306 (by decide)) rfl) rfl hl.1 (Nat.le_of_ble_eq_true rfl) ⟨Nat.le_of_ble_eq_true rfl, Nat.le_of_ble_eq_true rfl⟩ ⟨Nat.le_of_ble_eq_true rfl, Nat.le_of_ble_eq_true rfl⟩ dX8_remakesBy_2 rfl (fun H locs hP hS => ?_)
  refine lv_istore_n (lv' := [(2, .int x1), (0, .ref (g.2.2 + 306)), (1, .int a1)]) hx hb dX8_remakesBy_5 rfl hl (by decide) rfl (fun ls hl => ?_)
  refine lv_iload_n hx hb dX8_remakesBy_6 rfl (lv_at hl 0 rfl) ?_
  refine lv_iconst (v := (-1 : Int32)) hx hb dX8_remakesBy_7 (by decide) ?_
  refine lv_icmp_ne (tgt := 17) hx hb dX8_remakesBy_8 (by decide) (fun hc => ?_) (fun hc => ?_)
  · have hf := if_f hc hf
    refine lv_aload_n hx hb dX8_remakesBy_17 rfl (lv_at hl 1 rfl) ?_
    obtain ⟨J2, hJ2, hf⟩ := ob_e hf
    refine zr_cVv (rest := []) (As := []) X hP hS (ct_X8_keeps (g := g) (nc := nc) (I := I) (J := J) (O := O) hnJ l  hJ2) cw_X8_304 (zr_recv X hP (Nat.lt_of_lt_of_le (zk_306).2.1 hnJ) (zb_ceJo zk_306 (by decide)) rfl) rfl hl.1 (Nat.le_of_ble_eq_true rfl) ⟨Nat.le_of_ble_eq_true rfl, Nat.le_of_ble_eq_true rfl⟩ ⟨Nat.le_of_ble_eq_true rfl, Nat.le_of_ble_eq_true rfl⟩ dX8_remakesBy_18 rfl (fun H locs hP hS => ?_)
    refine lv_iconst (v := (0 : Int32)) hx hb dX8_remakesBy_21 (by decide) ?_
    refine lv_istore_n (lv' := [(3, .int (0 : Int32)), (2, .int x1), (0, .ref (g.2.2 + 306)), (1, .int a1)]) hx hb dX8_remakesBy_22 rfl hl (by decide) rfl (fun ls hl => ?_)
    obtain ⟨J6, hJ6, hf⟩ := ob_e hf
    have K2 : ∀ (H : Heap) (locs : List Loc) (ls : Array Slot), va_P g.1 vwCl (zb_ws g nc (zb_ce g I J6 O)) H → va_S (zb_A g) s.heap H locs → lv_has ls 4 [(2, .int x1)] → W p l e { frames := 4, cells := 0, slots := 0, locals := 94 } s m args below meth c H locs 0 0 (MQ below (zb_Po g nc (zb_ce g I Jq O) (some (.int r9))) args s 0 0 (zb_A g)) (F0 m 48 ls []) := by
      intro H locs ls hP hS hl
      refine lv_iload_n hx hb dX8_remakesBy_48 rfl (lv_at hl 0 rfl) ?_
      obtain ⟨x7, hx7, hf⟩ := ob_e hf
      refine zr_cSi (rest := []) (As := [.int x1]) X hP hS (ct_X8_bits (g := g) (nc := nc) (I := I) (J := J6) (O := O)  l  hx7) cw_X8_243  rfl hl.1 (Nat.le_of_ble_eq_true rfl) ⟨Nat.le_of_ble_eq_true rfl, Nat.le_of_ble_eq_true rfl⟩ ⟨Nat.le_of_ble_eq_true rfl, Nat.le_of_ble_eq_true rfl⟩ dX8_remakesBy_49 rfl (fun H locs hP hS => ?_)
      cases hf
      exact zr_iret X hr hP hS dX8_remakesBy_52
    exact lpX8_remakesBy_L23 hnJ l  X hJ6 K2 hP hS (lv_sub hl [0, 1, 2] rfl)
  · have hf := if_t hc hf
    refine lv_aload_n hx hb dX8_remakesBy_11 rfl (lv_at hl 1 rfl) ?_
    refine lv_iconst (v := (3 : Int32)) hx hb dX8_remakesBy_12 (by decide) ?_
    obtain ⟨x8, J9, hx8_J9, hf⟩ := ob2_e hf
    refine zr_cVi (rest := []) (As := [.int (3 : Int32)]) X hP hS (ct_X8_refused (g := g) (nc := nc) (I := I) (J := J) (O := O) hnJ l  hx8_J9) cw_X8_322 (zr_recv X hP (Nat.lt_of_lt_of_le (zk_306).2.1 hnJ) (zb_ceJo zk_306 (by decide)) rfl) rfl hl.1 (Nat.le_of_ble_eq_true rfl) ⟨Nat.le_of_ble_eq_true rfl, Nat.le_of_ble_eq_true rfl⟩ ⟨Nat.le_of_ble_eq_true rfl, Nat.le_of_ble_eq_true rfl⟩ dX8_remakesBy_13 rfl (fun H locs hP hS => ?_)
    cases hf
    exact zr_iret X hr hP hS dX8_remakesBy_16
set_option maxHeartbeats 4000000 in
set_option maxRecDepth 100000 in
theorem ct_X8_remakeBy {g : zb_G} {nc : Nat} (hnJ : 318 ≤ nc) (l : Launch) {a1 : Int32} {I J O : Mem} {r9 : Int32} {Jq : Mem} (hf : fX8_remakeBy a1 J = some (r9, Jq)) : zb_Ct l g nc yX8_remakeBy cX8_remakeBy 2 (some .int) 5 117 [.ref (g.2.2 + 306), .int a1] (zb_ce g I J O) (some (.int r9)) (zb_ce g I Jq O) := by
  refine zb_ofW (own := RX8) (by decide +kernel) rfl (Nat.le_of_ble_eq_true rfl) ?_
  intro p e s m args below meth c ls X hr hP hl
  have hx := X.1.1
  have hb := X.1.2.1
  have ho := X.1.2.2.2.1
  have hts := X.1.2.2.2.2
  have hZ := X.2.2.2
  have hl : lv_has ls 2 [(0, .ref (g.2.2 + 306)), (1, .int a1)] := hl
  have hS : va_S (zb_A g) s.heap s.heap [] := va_S.rf
  obtain ⟨H, hH⟩ : ∃ H, H = s.heap := ⟨_, rfl⟩
  obtain ⟨locs, hlocs⟩ : ∃ z : List Loc, z = [] := ⟨_, rfl⟩
  rw [← hH] at hP
  have hS : va_S (zb_A g) s.heap H locs := by rw [hH, hlocs]; exact hS
  show W p l e _ s m args below meth c s.heap [] 0 0 _ _
  rw [← hH, ← hlocs]
  rw [fX8_remakeBy] at hf
  refine lv_aload_n hx hb dX8_remakeBy_0 rfl (lv_at hl 0 rfl) ?_
  refine lv_iload_n hx hb dX8_remakeBy_1 rfl (lv_at hl 1 rfl) ?_
  obtain ⟨x1, J2, hx1_J2, hf⟩ := ob2_e hf
  refine zr_cVi (rest := []) (As := [.int a1]) X hP hS (ct_X8_noForce (g := g) (nc := nc) (I := I) (J := J) (O := O) hnJ l  hx1_J2) cw_X8_292 (zr_recv X hP (Nat.lt_of_lt_of_le (zk_306).2.1 hnJ) (zb_ceJo zk_306 (by decide)) rfl) rfl hl.1 (Nat.le_of_ble_eq_true rfl) ⟨Nat.le_of_ble_eq_true rfl, Nat.le_of_ble_eq_true rfl⟩ ⟨Nat.le_of_ble_eq_true rfl, Nat.le_of_ble_eq_true rfl⟩ dX8_remakeBy_2 rfl (fun H locs hP hS => ?_)
  obtain ⟨x5, J6, ht, hf⟩ := ob2_e hf
  have K1 : ∀ (H : Heap) (locs : List Loc) (ls : Array Slot), va_P g.1 vwCl (zb_ws g nc (zb_ce g I J6 O)) H → va_S (zb_A g) s.heap H locs → lv_has ls 2 [] → W p l e { frames := 5, cells := 0, slots := 0, locals := 117 } s m args below meth c H locs 0 0 (MQ below (zb_Po g nc (zb_ce g I Jq O) (some (.int r9))) args s 0 0 (zb_A g)) (F0 m 17 ls [.int x5]) := by
    intro H locs ls hP hS hl
    cases hf
    exact zr_iret X hr hP hS dX8_remakeBy_17
  have hf := ht
  refine lv_if_eq (tgt := 12) hx hb dX8_remakeBy_5 (by decide) (fun hc => ?_) (fun hc => ?_)
  · have hf := if_t hc hf
    refine lv_aload_n hx hb dX8_remakeBy_12 rfl (lv_at hl 0 rfl) ?_
    refine lv_iload_n hx hb dX8_remakeBy_13 rfl (lv_at hl 1 rfl) ?_
    obtain ⟨x3, J4, hx3_J4, hf⟩ := ob2_e hf
    refine zr_cVi (rest := []) (As := [.int a1]) X hP hS (ct_X8_remakesBy (g := g) (nc := nc) (I := I) (J := J2) (O := O) hnJ l  hx3_J4) cw_X8_331 (zr_recv X hP (Nat.lt_of_lt_of_le (zk_306).2.1 hnJ) (zb_ceJo zk_306 (by decide)) rfl) rfl hl.1 (Nat.le_of_ble_eq_true rfl) ⟨Nat.le_of_ble_eq_true rfl, Nat.le_of_ble_eq_true rfl⟩ ⟨Nat.le_of_ble_eq_true rfl, Nat.le_of_ble_eq_true rfl⟩ dX8_remakeBy_14 rfl (fun H locs hP hS => ?_)
    cases hf
    exact K1 H locs ls hP hS (lv_sub hl [] rfl)
  · have hf := if_f hc hf
    refine lv_iconst (v := (0 : Int32)) hx hb dX8_remakeBy_8 (by decide) ?_
    refine lv_goto (tgt := 17) hx hb dX8_remakeBy_9 (by decide) ?_
    cases hf
    exact K1 H locs ls hP hS (lv_sub hl [] rfl)
set_option maxHeartbeats 4000000 in
set_option maxRecDepth 100000 in
theorem ct_X8_hauls {g : zb_G} {nc : Nat} (hnJ : 318 ≤ nc) (l : Launch) {a1 : Int32} {I J O : Mem} {r9 : Int32} {Jq : Mem} (hf : fX8_hauls a1 J = some (r9, Jq)) : zb_Ct l g nc yX8_hauls cX8_hauls 2 (some .int) 2 45 [.ref (g.2.2 + 306), .int a1] (zb_ce g I J O) (some (.int r9)) (zb_ce g I Jq O) := by
  refine zb_ofW (own := RX8) (by decide +kernel) rfl (Nat.le_of_ble_eq_true rfl) ?_
  intro p e s m args below meth c ls X hr hP hl
  have hx := X.1.1
  have hb := X.1.2.1
  have ho := X.1.2.2.2.1
  have hts := X.1.2.2.2.2
  have hZ := X.2.2.2
  have hl : lv_has ls 2 [(0, .ref (g.2.2 + 306)), (1, .int a1)] := hl
  have hS : va_S (zb_A g) s.heap s.heap [] := va_S.rf
  obtain ⟨H, hH⟩ : ∃ H, H = s.heap := ⟨_, rfl⟩
  obtain ⟨locs, hlocs⟩ : ∃ z : List Loc, z = [] := ⟨_, rfl⟩
  rw [← hH] at hP
  have hS : va_S (zb_A g) s.heap H locs := by rw [hH, hlocs]; exact hS
  show W p l e _ s m args below meth c s.heap [] 0 0 _ _
  rw [← hH, ← hlocs]
  rw [fX8_hauls] at hf
  refine lv_aload_n hx hb dX8_hauls_0 rfl (lv_at hl 0 rfl) ?_
  refine gf_X8_7 X hnJ hP zk_306 dX8_hauls_1 ?_
  refine lv_bipush (v := (52 : Int32)) hx hb dX8_hauls_4 (by decide) ?_
  refine lv_iload_n hx hb dX8_hauls_6 rfl (lv_at hl 1 rfl) ?_
  refine lv_iadd hx hb dX8_hauls_7 ?_
  obtain ⟨x1, hx1, hf⟩ := ob_e hf
  refine zr_aldJ X hP hnJ zk_307 hx1 dX8_hauls_8 ?_
  refine lv_iconst (v := (2 : Int32)) hx hb dX8_hauls_9 (by decide) ?_
  refine lv_icmp_eq (tgt := 19) hx hb dX8_hauls_10 (by decide) (fun hc => ?_) (fun hc => ?_)
  · have hf := if_t hc hf
    refine lv_aload_n hx hb dX8_hauls_19 rfl (lv_at hl 0 rfl) ?_
    obtain ⟨J2, hJ2, hf⟩ := ob_e hf
    refine zr_cVv (rest := []) (As := []) X hP hS (ct_X8_keeps (g := g) (nc := nc) (I := I) (J := J) (O := O) hnJ l  hJ2) cw_X8_304 (zr_recv X hP (Nat.lt_of_lt_of_le (zk_306).2.1 hnJ) (zb_ceJo zk_306 (by decide)) rfl) rfl hl.1 (Nat.le_of_ble_eq_true rfl) ⟨Nat.le_of_ble_eq_true rfl, Nat.le_of_ble_eq_true rfl⟩ ⟨Nat.le_of_ble_eq_true rfl, Nat.le_of_ble_eq_true rfl⟩ dX8_hauls_20 rfl (fun H locs hP hS => ?_)
    refine lv_aload_n hx hb dX8_hauls_23 rfl (lv_at hl 0 rfl) ?_
    refine lv_iload_n hx hb dX8_hauls_24 rfl (lv_at hl 1 rfl) ?_
    obtain ⟨J3, hJ3, hf⟩ := ob_e hf
    refine zr_cVv (rest := []) (As := [.int a1]) X hP hS (ct_X8_suspects (g := g) (nc := nc) (I := I) (J := J2) (O := O) hnJ l  hJ3) cw_X8_316 (zr_recv X hP (Nat.lt_of_lt_of_le (zk_306).2.1 hnJ) (zb_ceJo zk_306 (by decide)) rfl) rfl hl.1 (Nat.le_of_ble_eq_true rfl) ⟨Nat.le_of_ble_eq_true rfl, Nat.le_of_ble_eq_true rfl⟩ ⟨Nat.le_of_ble_eq_true rfl, Nat.le_of_ble_eq_true rfl⟩ dX8_hauls_25 rfl (fun H locs hP hS => ?_)
    refine lv_aload_n hx hb dX8_hauls_28 rfl (lv_at hl 0 rfl) ?_
    refine lv_iconst (v := (2 : Int32)) hx hb dX8_hauls_29 (by decide) ?_
    obtain ⟨x4, hx4, hf⟩ := ob_e hf
    refine zr_cVi (rest := []) (As := [.int (2 : Int32)]) X hP hS (ct_X8_inState (g := g) (nc := nc) (I := I) (J := J3) (O := O) hnJ l  hx4) cw_X8_246 (zr_recv X hP (Nat.lt_of_lt_of_le (zk_306).2.1 hnJ) (zb_ceJo zk_306 (by decide)) rfl) rfl hl.1 (Nat.le_of_ble_eq_true rfl) ⟨Nat.le_of_ble_eq_true rfl, Nat.le_of_ble_eq_true rfl⟩ ⟨Nat.le_of_ble_eq_true rfl, Nat.le_of_ble_eq_true rfl⟩ dX8_hauls_30 rfl (fun H locs hP hS => ?_)
    cases hf
    exact zr_iret X hr hP hS dX8_hauls_33
  · have hf := if_f hc hf
    refine lv_aload_n hx hb dX8_hauls_13 rfl (lv_at hl 0 rfl) ?_
    refine lv_iconst (v := (1 : Int32)) hx hb dX8_hauls_14 (by decide) ?_
    obtain ⟨x5, J6, hx5_J6, hf⟩ := ob2_e hf
    refine zr_cVi (rest := []) (As := [.int (1 : Int32)]) X hP hS (ct_X8_refused (g := g) (nc := nc) (I := I) (J := J) (O := O) hnJ l  hx5_J6) cw_X8_322 (zr_recv X hP (Nat.lt_of_lt_of_le (zk_306).2.1 hnJ) (zb_ceJo zk_306 (by decide)) rfl) rfl hl.1 (Nat.le_of_ble_eq_true rfl) ⟨Nat.le_of_ble_eq_true rfl, Nat.le_of_ble_eq_true rfl⟩ ⟨Nat.le_of_ble_eq_true rfl, Nat.le_of_ble_eq_true rfl⟩ dX8_hauls_15 rfl (fun H locs hP hS => ?_)
    cases hf
    exact zr_iret X hr hP hS dX8_hauls_18
set_option maxHeartbeats 4000000 in
set_option maxRecDepth 100000 in
theorem ct_X8_haul {g : zb_G} {nc : Nat} (hnJ : 318 ≤ nc) (l : Launch) {a1 : Int32} {I J O : Mem} {r9 : Int32} {Jq : Mem} (hf : fX8_haul a1 J = some (r9, Jq)) : zb_Ct l g nc yX8_haul cX8_haul 2 (some .int) 3 66 [.ref (g.2.2 + 306), .int a1] (zb_ce g I J O) (some (.int r9)) (zb_ce g I Jq O) := by
  refine zb_ofW (own := RX8) (by decide +kernel) rfl (Nat.le_of_ble_eq_true rfl) ?_
  intro p e s m args below meth c ls X hr hP hl
  have hx := X.1.1
  have hb := X.1.2.1
  have ho := X.1.2.2.2.1
  have hts := X.1.2.2.2.2
  have hZ := X.2.2.2
  have hl : lv_has ls 2 [(0, .ref (g.2.2 + 306)), (1, .int a1)] := hl
  have hS : va_S (zb_A g) s.heap s.heap [] := va_S.rf
  obtain ⟨H, hH⟩ : ∃ H, H = s.heap := ⟨_, rfl⟩
  obtain ⟨locs, hlocs⟩ : ∃ z : List Loc, z = [] := ⟨_, rfl⟩
  rw [← hH] at hP
  have hS : va_S (zb_A g) s.heap H locs := by rw [hH, hlocs]; exact hS
  show W p l e _ s m args below meth c s.heap [] 0 0 _ _
  rw [← hH, ← hlocs]
  rw [fX8_haul] at hf
  refine lv_aload_n hx hb dX8_haul_0 rfl (lv_at hl 0 rfl) ?_
  refine lv_iconst (v := (0 : Int32)) hx hb dX8_haul_1 (by decide) ?_
  refine pf_X8_57 X hnJ hP hS zk_306 dX8_haul_2 (fun H locs hP hS => ?_)
  refine lv_aload_n hx hb dX8_haul_5 rfl (lv_at hl 0 rfl) ?_
  refine lv_iload_n hx hb dX8_haul_6 rfl (lv_at hl 1 rfl) ?_
  obtain ⟨x1, J2, hx1_J2, hf⟩ := ob2_e hf
  refine zr_cVi (rest := []) (As := [.int a1]) X hP hS (ct_X8_noBuoy (g := g) (nc := nc) (I := I) (J := (wr J 306 0 (0 : Int32))) (O := O) hnJ l  hx1_J2) cw_X8_255 (zr_recv X hP (Nat.lt_of_lt_of_le (zk_306).2.1 hnJ) (zb_ceJo zk_306 (by decide)) rfl) rfl hl.1 (Nat.le_of_ble_eq_true rfl) ⟨Nat.le_of_ble_eq_true rfl, Nat.le_of_ble_eq_true rfl⟩ ⟨Nat.le_of_ble_eq_true rfl, Nat.le_of_ble_eq_true rfl⟩ dX8_haul_7 rfl (fun H locs hP hS => ?_)
  obtain ⟨x5, J6, ht, hf⟩ := ob2_e hf
  have K1 : ∀ (H : Heap) (locs : List Loc) (ls : Array Slot), va_P g.1 vwCl (zb_ws g nc (zb_ce g I J6 O)) H → va_S (zb_A g) s.heap H locs → lv_has ls 2 [] → W p l e { frames := 3, cells := 0, slots := 0, locals := 66 } s m args below meth c H locs 0 0 (MQ below (zb_Po g nc (zb_ce g I Jq O) (some (.int r9))) args s 0 0 (zb_A g)) (F0 m 22 ls [.int x5]) := by
    intro H locs ls hP hS hl
    cases hf
    exact zr_iret X hr hP hS dX8_haul_22
  have hf := ht
  refine lv_if_eq (tgt := 17) hx hb dX8_haul_10 (by decide) (fun hc => ?_) (fun hc => ?_)
  · have hf := if_t hc hf
    refine lv_aload_n hx hb dX8_haul_17 rfl (lv_at hl 0 rfl) ?_
    refine lv_iload_n hx hb dX8_haul_18 rfl (lv_at hl 1 rfl) ?_
    obtain ⟨x3, J4, hx3_J4, hf⟩ := ob2_e hf
    refine zr_cVi (rest := []) (As := [.int a1]) X hP hS (ct_X8_hauls (g := g) (nc := nc) (I := I) (J := J2) (O := O) hnJ l  hx3_J4) cw_X8_334 (zr_recv X hP (Nat.lt_of_lt_of_le (zk_306).2.1 hnJ) (zb_ceJo zk_306 (by decide)) rfl) rfl hl.1 (Nat.le_of_ble_eq_true rfl) ⟨Nat.le_of_ble_eq_true rfl, Nat.le_of_ble_eq_true rfl⟩ ⟨Nat.le_of_ble_eq_true rfl, Nat.le_of_ble_eq_true rfl⟩ dX8_haul_19 rfl (fun H locs hP hS => ?_)
    cases hf
    exact K1 H locs ls hP hS (lv_sub hl [] rfl)
  · have hf := if_f hc hf
    refine lv_iconst (v := (0 : Int32)) hx hb dX8_haul_13 (by decide) ?_
    refine lv_goto (tgt := 22) hx hb dX8_haul_14 (by decide) ?_
    cases hf
    exact K1 H locs ls hP hS (lv_sub hl [] rfl)
set_option maxHeartbeats 4000000 in
set_option maxRecDepth 100000 in
theorem ct_X8_stocks {g : zb_G} {nc : Nat} (hnJ : 318 ≤ nc) (l : Launch) {a1 : Int32} {I J O : Mem} {r9 : Int32} {Jq : Mem} (hf : fX8_stocks a1 J = some (r9, Jq)) : zb_Ct l g nc yX8_stocks cX8_stocks 2 (some .int) 2 45 [.ref (g.2.2 + 306), .int a1] (zb_ce g I J O) (some (.int r9)) (zb_ce g I Jq O) := by
  refine zb_ofW (own := RX8) (by decide +kernel) rfl (Nat.le_of_ble_eq_true rfl) ?_
  intro p e s m args below meth c ls X hr hP hl
  have hx := X.1.1
  have hb := X.1.2.1
  have ho := X.1.2.2.2.1
  have hts := X.1.2.2.2.2
  have hZ := X.2.2.2
  have hl : lv_has ls 2 [(0, .ref (g.2.2 + 306)), (1, .int a1)] := hl
  have hS : va_S (zb_A g) s.heap s.heap [] := va_S.rf
  obtain ⟨H, hH⟩ : ∃ H, H = s.heap := ⟨_, rfl⟩
  obtain ⟨locs, hlocs⟩ : ∃ z : List Loc, z = [] := ⟨_, rfl⟩
  rw [← hH] at hP
  have hS : va_S (zb_A g) s.heap H locs := by rw [hH, hlocs]; exact hS
  show W p l e _ s m args below meth c s.heap [] 0 0 _ _
  rw [← hH, ← hlocs]
  rw [fX8_stocks] at hf
  refine lv_aload_n hx hb dX8_stocks_0 rfl (lv_at hl 0 rfl) ?_
  refine gf_X8_7 X hnJ hP zk_306 dX8_stocks_1 ?_
  refine lv_iconst (v := (4 : Int32)) hx hb dX8_stocks_4 (by decide) ?_
  obtain ⟨x1, hx1, hf⟩ := ob_e hf
  refine zr_aldJ X hP hnJ zk_307 hx1 dX8_stocks_5 ?_
  refine lv_iload_n hx hb dX8_stocks_6 rfl (lv_at hl 1 rfl) ?_
  refine lv_iadd hx hb dX8_stocks_7 ?_
  refine lv_ldc (v := (99999 : Int32)) hx hb ho (hts _ wk_X8_157) dX8_stocks_8 ?_
  refine lv_icmp_le (tgt := 19) hx hb dX8_stocks_10 (by decide) (fun hc => ?_) (fun hc => ?_)
  · have hf := if_t hc hf
    refine lv_aload_n hx hb dX8_stocks_19 rfl (lv_at hl 0 rfl) ?_
    obtain ⟨J2, hJ2, hf⟩ := ob_e hf
    refine zr_cVv (rest := []) (As := []) X hP hS (ct_X8_keeps (g := g) (nc := nc) (I := I) (J := J) (O := O) hnJ l  hJ2) cw_X8_304 (zr_recv X hP (Nat.lt_of_lt_of_le (zk_306).2.1 hnJ) (zb_ceJo zk_306 (by decide)) rfl) rfl hl.1 (Nat.le_of_ble_eq_true rfl) ⟨Nat.le_of_ble_eq_true rfl, Nat.le_of_ble_eq_true rfl⟩ ⟨Nat.le_of_ble_eq_true rfl, Nat.le_of_ble_eq_true rfl⟩ dX8_stocks_20 rfl (fun H locs hP hS => ?_)
    refine lv_aload_n hx hb dX8_stocks_23 rfl (lv_at hl 0 rfl) ?_
    refine gf_X8_7 X hnJ hP zk_306 dX8_stocks_24 ?_
    refine lv_iconst (v := (4 : Int32)) hx hb dX8_stocks_27 (by decide) ?_
    refine lv_dup2_11 hx hb dX8_stocks_28 rfl rfl ?_
    obtain ⟨x3, hx3, hf⟩ := ob_e hf
    refine zr_aldJ X hP hnJ zk_307 hx3 dX8_stocks_29 ?_
    refine lv_iload_n hx hb dX8_stocks_30 rfl (lv_at hl 1 rfl) ?_
    refine lv_iadd hx hb dX8_stocks_31 ?_
    obtain ⟨J4, hJ4, hf⟩ := ob_e hf
    refine zr_astJ X hP hS hnJ zk_307 hJ4 dX8_stocks_32 (fun H locs hP hS => ?_)
    refine lv_aload_n hx hb dX8_stocks_33 rfl (lv_at hl 0 rfl) ?_
    refine gf_X8_7 X hnJ hP zk_306 dX8_stocks_34 ?_
    refine lv_bipush (v := (9 : Int32)) hx hb dX8_stocks_37 (by decide) ?_
    refine lv_dup2_11 hx hb dX8_stocks_39 rfl rfl ?_
    obtain ⟨x5, hx5, hf⟩ := ob_e hf
    refine zr_aldJ X hP hnJ zk_307 hx5 dX8_stocks_40 ?_
    refine lv_iload_n hx hb dX8_stocks_41 rfl (lv_at hl 1 rfl) ?_
    refine lv_iadd hx hb dX8_stocks_42 ?_
    obtain ⟨J6, hJ6, hf⟩ := ob_e hf
    refine zr_astJ X hP hS hnJ zk_307 hJ6 dX8_stocks_43 (fun H locs hP hS => ?_)
    refine lv_aload_n hx hb dX8_stocks_44 rfl (lv_at hl 0 rfl) ?_
    refine gf_X8_7 X hnJ hP zk_306 dX8_stocks_45 ?_
    refine lv_iconst (v := (4 : Int32)) hx hb dX8_stocks_48 (by decide) ?_
    obtain ⟨x7, hx7, hf⟩ := ob_e hf
    refine zr_aldJ X hP hnJ zk_307 hx7 dX8_stocks_49 ?_
    cases hf
    exact zr_iret X hr hP hS dX8_stocks_50
  · have hf := if_f hc hf
    refine lv_aload_n hx hb dX8_stocks_13 rfl (lv_at hl 0 rfl) ?_
    refine lv_iconst (v := (4 : Int32)) hx hb dX8_stocks_14 (by decide) ?_
    obtain ⟨x8, J9, hx8_J9, hf⟩ := ob2_e hf
    refine zr_cVi (rest := []) (As := [.int (4 : Int32)]) X hP hS (ct_X8_refused (g := g) (nc := nc) (I := I) (J := J) (O := O) hnJ l  hx8_J9) cw_X8_322 (zr_recv X hP (Nat.lt_of_lt_of_le (zk_306).2.1 hnJ) (zb_ceJo zk_306 (by decide)) rfl) rfl hl.1 (Nat.le_of_ble_eq_true rfl) ⟨Nat.le_of_ble_eq_true rfl, Nat.le_of_ble_eq_true rfl⟩ ⟨Nat.le_of_ble_eq_true rfl, Nat.le_of_ble_eq_true rfl⟩ dX8_stocks_15 rfl (fun H locs hP hS => ?_)
    cases hf
    exact zr_iret X hr hP hS dX8_stocks_18
set_option maxHeartbeats 4000000 in
set_option maxRecDepth 100000 in
theorem ct_X8_addStock {g : zb_G} {nc : Nat} (hnJ : 318 ≤ nc) (l : Launch) {a1 : Int32} {I J O : Mem} {r9 : Int32} {Jq : Mem} (hf : fX8_addStock a1 J = some (r9, Jq)) : zb_Ct l g nc yX8_addStock cX8_addStock 2 (some .int) 3 66 [.ref (g.2.2 + 306), .int a1] (zb_ce g I J O) (some (.int r9)) (zb_ce g I Jq O) := by
  refine zb_ofW (own := RX8) (by decide +kernel) rfl (Nat.le_of_ble_eq_true rfl) ?_
  intro p e s m args below meth c ls X hr hP hl
  have hx := X.1.1
  have hb := X.1.2.1
  have ho := X.1.2.2.2.1
  have hts := X.1.2.2.2.2
  have hZ := X.2.2.2
  have hl : lv_has ls 2 [(0, .ref (g.2.2 + 306)), (1, .int a1)] := hl
  have hS : va_S (zb_A g) s.heap s.heap [] := va_S.rf
  obtain ⟨H, hH⟩ : ∃ H, H = s.heap := ⟨_, rfl⟩
  obtain ⟨locs, hlocs⟩ : ∃ z : List Loc, z = [] := ⟨_, rfl⟩
  rw [← hH] at hP
  have hS : va_S (zb_A g) s.heap H locs := by rw [hH, hlocs]; exact hS
  show W p l e _ s m args below meth c s.heap [] 0 0 _ _
  rw [← hH, ← hlocs]
  rw [fX8_addStock] at hf
  refine lv_aload_n hx hb dX8_addStock_0 rfl (lv_at hl 0 rfl) ?_
  refine lv_iconst (v := (0 : Int32)) hx hb dX8_addStock_1 (by decide) ?_
  refine pf_X8_57 X hnJ hP hS zk_306 dX8_addStock_2 (fun H locs hP hS => ?_)
  refine lv_aload_n hx hb dX8_addStock_5 rfl (lv_at hl 0 rfl) ?_
  refine lv_iload_n hx hb dX8_addStock_6 rfl (lv_at hl 1 rfl) ?_
  refine lv_iconst (v := (1 : Int32)) hx hb dX8_addStock_7 (by decide) ?_
  refine lv_sipush (v := (9999 : Int32)) hx hb dX8_addStock_8 (by decide) ?_
  obtain ⟨x1, hx1, hf⟩ := ob_e hf
  refine zr_cSi (rest := [.ref (g.2.2 + 306)]) (As := [.int a1, .int (1 : Int32), .int (9999 : Int32)]) X hP hS (ct_X8_within (g := g) (nc := nc) (I := I) (J := (wr J 306 0 (0 : Int32))) (O := O)  l  hx1) cw_X8_60  rfl hl.1 (Nat.le_of_ble_eq_true rfl) ⟨Nat.le_of_ble_eq_true rfl, Nat.le_of_ble_eq_true rfl⟩ ⟨Nat.le_of_ble_eq_true rfl, Nat.le_of_ble_eq_true rfl⟩ dX8_addStock_11 rfl (fun H locs hP hS => ?_)
  obtain ⟨x2, ht, hf⟩ := pl_e hf
  have K1 : ∀ (H : Heap) (locs : List Loc) (ls : Array Slot), va_P g.1 vwCl (zb_ws g nc (zb_ce g I (wr J 306 0 (0 : Int32)) O)) H → va_S (zb_A g) s.heap H locs → lv_has ls 2 [(0, .ref (g.2.2 + 306)), (1, .int a1)] → W p l e { frames := 3, cells := 0, slots := 0, locals := 66 } s m args below meth c H locs 0 0 (MQ below (zb_Po g nc (zb_ce g I Jq O) (some (.int r9))) args s 0 0 (zb_A g)) (F0 m 22 ls [.int x2, .ref (g.2.2 + 306)]) := by
    intro H locs ls hP hS hl
    refine lv_iconst (v := (1 : Int32)) hx hb dX8_addStock_22 (by decide) ?_
    obtain ⟨x3, J4, hx3_J4, hf⟩ := ob2_e hf
    refine zr_cVi (rest := []) (As := [.int x2, .int (1 : Int32)]) X hP hS (ct_X8_throwsIf (g := g) (nc := nc) (I := I) (J := (wr J 306 0 (0 : Int32))) (O := O) hnJ l  hx3_J4) cw_X8_64 (zr_recv X hP (Nat.lt_of_lt_of_le (zk_306).2.1 hnJ) (zb_ceJo zk_306 (by decide)) rfl) rfl hl.1 (Nat.le_of_ble_eq_true rfl) ⟨Nat.le_of_ble_eq_true rfl, Nat.le_of_ble_eq_true rfl⟩ ⟨Nat.le_of_ble_eq_true rfl, Nat.le_of_ble_eq_true rfl⟩ dX8_addStock_23 rfl (fun H locs hP hS => ?_)
    obtain ⟨x7, J8, ht, hf⟩ := ob2_e hf
    have K2 : ∀ (H : Heap) (locs : List Loc) (ls : Array Slot), va_P g.1 vwCl (zb_ws g nc (zb_ce g I J8 O)) H → va_S (zb_A g) s.heap H locs → lv_has ls 2 [] → W p l e { frames := 3, cells := 0, slots := 0, locals := 66 } s m args below meth c H locs 0 0 (MQ below (zb_Po g nc (zb_ce g I Jq O) (some (.int r9))) args s 0 0 (zb_A g)) (F0 m 38 ls [.int x7]) := by
      intro H locs ls hP hS hl
      cases hf
      exact zr_iret X hr hP hS dX8_addStock_38
    have hf := ht
    refine lv_if_eq (tgt := 33) hx hb dX8_addStock_26 (by decide) (fun hc => ?_) (fun hc => ?_)
    · have hf := if_t hc hf
      refine lv_aload_n hx hb dX8_addStock_33 rfl (lv_at hl 0 rfl) ?_
      refine lv_iload_n hx hb dX8_addStock_34 rfl (lv_at hl 1 rfl) ?_
      obtain ⟨x5, J6, hx5_J6, hf⟩ := ob2_e hf
      refine zr_cVi (rest := []) (As := [.int a1]) X hP hS (ct_X8_stocks (g := g) (nc := nc) (I := I) (J := J4) (O := O) hnJ l  hx5_J6) cw_X8_337 (zr_recv X hP (Nat.lt_of_lt_of_le (zk_306).2.1 hnJ) (zb_ceJo zk_306 (by decide)) rfl) rfl hl.1 (Nat.le_of_ble_eq_true rfl) ⟨Nat.le_of_ble_eq_true rfl, Nat.le_of_ble_eq_true rfl⟩ ⟨Nat.le_of_ble_eq_true rfl, Nat.le_of_ble_eq_true rfl⟩ dX8_addStock_35 rfl (fun H locs hP hS => ?_)
      cases hf
      exact K2 H locs ls hP hS (lv_sub hl [] rfl)
    · have hf := if_f hc hf
      refine lv_iconst (v := (0 : Int32)) hx hb dX8_addStock_29 (by decide) ?_
      refine lv_goto (tgt := 38) hx hb dX8_addStock_30 (by decide) ?_
      cases hf
      exact K2 H locs ls hP hS (lv_sub hl [] rfl)
  have hf := ht
  refine lv_if_ne (tgt := 21) hx hb dX8_addStock_14 (by decide) (fun hc => ?_) (fun hc => ?_)
  · have hf := if_f hc hf
    refine lv_iconst (v := (0 : Int32)) hx hb dX8_addStock_21 (by decide) ?_
    cases hf
    exact K1 H locs ls hP hS (lv_sub hl [0, 1] rfl)
  · have hf := if_t hc hf
    refine lv_iconst (v := (1 : Int32)) hx hb dX8_addStock_17 (by decide) ?_
    refine lv_goto (tgt := 22) hx hb dX8_addStock_18 (by decide) ?_
    cases hf
    exact K1 H locs ls hP hS (lv_sub hl [0, 1] rfl)
set_option maxHeartbeats 4000000 in
set_option maxRecDepth 100000 in
theorem ct_X8_replaces {g : zb_G} {nc : Nat} (hnJ : 318 ≤ nc) (l : Launch) {a1 : Int32} {a2 : Int32} {I J O : Mem} {r9 : Int32} {Jq : Mem} (hf : fX8_replaces a1 a2 J = some (r9, Jq)) : zb_Ct l g nc yX8_replaces cX8_replaces 4 (some .int) 2 45 [.ref (g.2.2 + 306), .int a1, .int a2] (zb_ce g I J O) (some (.int r9)) (zb_ce g I Jq O) := by
  refine zb_ofW (own := RX8) (by decide +kernel) rfl (Nat.le_of_ble_eq_true rfl) ?_
  intro p e s m args below meth c ls X hr hP hl
  have hx := X.1.1
  have hb := X.1.2.1
  have ho := X.1.2.2.2.1
  have hts := X.1.2.2.2.2
  have hZ := X.2.2.2
  have hl : lv_has ls 4 [(0, .ref (g.2.2 + 306)), (1, .int a1), (2, .int a2)] := hl
  have hS : va_S (zb_A g) s.heap s.heap [] := va_S.rf
  obtain ⟨H, hH⟩ : ∃ H, H = s.heap := ⟨_, rfl⟩
  obtain ⟨locs, hlocs⟩ : ∃ z : List Loc, z = [] := ⟨_, rfl⟩
  rw [← hH] at hP
  have hS : va_S (zb_A g) s.heap H locs := by rw [hH, hlocs]; exact hS
  show W p l e _ s m args below meth c s.heap [] 0 0 _ _
  rw [← hH, ← hlocs]
  rw [fX8_replaces] at hf
  refine lv_aload_n hx hb dX8_replaces_0 rfl (lv_at hl 0 rfl) ?_
  obtain ⟨J1, hJ1, hf⟩ := ob_e hf
  refine zr_cVv (rest := []) (As := []) X hP hS (ct_X8_keeps (g := g) (nc := nc) (I := I) (J := J) (O := O) hnJ l  hJ1) cw_X8_304 (zr_recv X hP (Nat.lt_of_lt_of_le (zk_306).2.1 hnJ) (zb_ceJo zk_306 (by decide)) rfl) rfl hl.1 (Nat.le_of_ble_eq_true rfl) ⟨Nat.le_of_ble_eq_true rfl, Nat.le_of_ble_eq_true rfl⟩ ⟨Nat.le_of_ble_eq_true rfl, Nat.le_of_ble_eq_true rfl⟩ dX8_replaces_1 rfl (fun H locs hP hS => ?_)
  refine lv_aload_n hx hb dX8_replaces_4 rfl (lv_at hl 0 rfl) ?_
  refine gf_X8_7 X hnJ hP zk_306 dX8_replaces_5 ?_
  refine lv_iload_n hx hb dX8_replaces_8 rfl (lv_at hl 1 rfl) ?_
  obtain ⟨x2, hx2, hf⟩ := ob_e hf
  refine zr_aldJ X hP hnJ zk_307 hx2 dX8_replaces_9 ?_
  refine lv_istore_n (lv' := [(3, .int x2), (0, .ref (g.2.2 + 306)), (1, .int a1), (2, .int a2)]) hx hb dX8_replaces_10 rfl hl (by decide) rfl (fun ls hl => ?_)
  refine lv_aload_n hx hb dX8_replaces_11 rfl (lv_at hl 1 rfl) ?_
  refine gf_X8_7 X hnJ hP zk_306 dX8_replaces_12 ?_
  refine lv_iload_n hx hb dX8_replaces_15 rfl (lv_at hl 2 rfl) ?_
  refine lv_iload_n hx hb dX8_replaces_16 rfl (lv_at hl 3 rfl) ?_
  obtain ⟨J3, hJ3, hf⟩ := ob_e hf
  refine zr_astJ X hP hS hnJ zk_307 hJ3 dX8_replaces_17 (fun H locs hP hS => ?_)
  refine lv_iload_n hx hb dX8_replaces_18 rfl (lv_at hl 0 rfl) ?_
  cases hf
  exact zr_iret X hr hP hS dX8_replaces_19
set_option maxHeartbeats 4000000 in
set_option maxRecDepth 100000 in
theorem ct_X8_setOffset {g : zb_G} {nc : Nat} (hnJ : 318 ≤ nc) (l : Launch) {a1 : Int32} {a2 : Int32} {I J O : Mem} {r9 : Int32} {Jq : Mem} (hf : fX8_setOffset a1 a2 J = some (r9, Jq)) : zb_Ct l g nc yX8_setOffset cX8_setOffset 3 (some .int) 3 68 [.ref (g.2.2 + 306), .int a1, .int a2] (zb_ce g I J O) (some (.int r9)) (zb_ce g I Jq O) := by
  refine zb_ofW (own := RX8) (by decide +kernel) rfl (Nat.le_of_ble_eq_true rfl) ?_
  intro p e s m args below meth c ls X hr hP hl
  have hx := X.1.1
  have hb := X.1.2.1
  have ho := X.1.2.2.2.1
  have hts := X.1.2.2.2.2
  have hZ := X.2.2.2
  have hl : lv_has ls 3 [(0, .ref (g.2.2 + 306)), (1, .int a1), (2, .int a2)] := hl
  have hS : va_S (zb_A g) s.heap s.heap [] := va_S.rf
  obtain ⟨H, hH⟩ : ∃ H, H = s.heap := ⟨_, rfl⟩
  obtain ⟨locs, hlocs⟩ : ∃ z : List Loc, z = [] := ⟨_, rfl⟩
  rw [← hH] at hP
  have hS : va_S (zb_A g) s.heap H locs := by rw [hH, hlocs]; exact hS
  show W p l e _ s m args below meth c s.heap [] 0 0 _ _
  rw [← hH, ← hlocs]
  rw [fX8_setOffset] at hf
  refine lv_aload_n hx hb dX8_setOffset_0 rfl (lv_at hl 0 rfl) ?_
  refine lv_iconst (v := (0 : Int32)) hx hb dX8_setOffset_1 (by decide) ?_
  refine pf_X8_57 X hnJ hP hS zk_306 dX8_setOffset_2 (fun H locs hP hS => ?_)
  refine lv_aload_n hx hb dX8_setOffset_5 rfl (lv_at hl 0 rfl) ?_
  refine lv_iload_n hx hb dX8_setOffset_6 rfl (lv_at hl 1 rfl) ?_
  obtain ⟨x1, J2, hx1_J2, hf⟩ := ob2_e hf
  refine zr_cVi (rest := []) (As := [.int a1]) X hP hS (ct_X8_noBuoy (g := g) (nc := nc) (I := I) (J := (wr J 306 0 (0 : Int32))) (O := O) hnJ l  hx1_J2) cw_X8_255 (zr_recv X hP (Nat.lt_of_lt_of_le (zk_306).2.1 hnJ) (zb_ceJo zk_306 (by decide)) rfl) rfl hl.1 (Nat.le_of_ble_eq_true rfl) ⟨Nat.le_of_ble_eq_true rfl, Nat.le_of_ble_eq_true rfl⟩ ⟨Nat.le_of_ble_eq_true rfl, Nat.le_of_ble_eq_true rfl⟩ dX8_setOffset_7 rfl (fun H locs hP hS => ?_)
  obtain ⟨x9, J10, ht, hf⟩ := ob2_e hf
  have K1 : ∀ (H : Heap) (locs : List Loc) (ls : Array Slot), va_P g.1 vwCl (zb_ws g nc (zb_ce g I J10 O)) H → va_S (zb_A g) s.heap H locs → lv_has ls 3 [] → W p l e { frames := 3, cells := 0, slots := 0, locals := 68 } s m args below meth c H locs 0 0 (MQ below (zb_Po g nc (zb_ce g I Jq O) (some (.int r9))) args s 0 0 (zb_A g)) (F0 m 53 ls [.int x9]) := by
    intro H locs ls hP hS hl
    cases hf
    exact zr_iret X hr hP hS dX8_setOffset_53
  have hf := ht
  refine lv_if_ne (tgt := 37) hx hb dX8_setOffset_10 (by decide) (fun hc => ?_) (fun hc => ?_)
  · have hf := if_f hc hf
    refine lv_iconst (v := (0 : Int32)) hx hb dX8_setOffset_37 (by decide) ?_
    refine lv_goto (tgt := 53) hx hb dX8_setOffset_38 (by decide) ?_
    cases hf
    exact K1 H locs ls hP hS (lv_sub hl [] rfl)
  · have hf := if_t hc hf
    refine lv_aload_n hx hb dX8_setOffset_13 rfl (lv_at hl 0 rfl) ?_
    refine lv_iload_n hx hb dX8_setOffset_14 rfl (lv_at hl 2 rfl) ?_
    refine lv_bipush (v := (-99 : Int32)) hx hb dX8_setOffset_15 (by decide) ?_
    refine lv_bipush (v := (99 : Int32)) hx hb dX8_setOffset_17 (by decide) ?_
    obtain ⟨x3, hx3, hf⟩ := ob_e hf
    refine zr_cSi (rest := [.ref (g.2.2 + 306)]) (As := [.int a2, .int (-99 : Int32), .int (99 : Int32)]) X hP hS (ct_X8_within (g := g) (nc := nc) (I := I) (J := J2) (O := O)  l  hx3) cw_X8_60  rfl hl.1 (Nat.le_of_ble_eq_true rfl) ⟨Nat.le_of_ble_eq_true rfl, Nat.le_of_ble_eq_true rfl⟩ ⟨Nat.le_of_ble_eq_true rfl, Nat.le_of_ble_eq_true rfl⟩ dX8_setOffset_19 rfl (fun H locs hP hS => ?_)
    obtain ⟨x4, ht, hf⟩ := pl_e hf
    have K2 : ∀ (H : Heap) (locs : List Loc) (ls : Array Slot), va_P g.1 vwCl (zb_ws g nc (zb_ce g I J2 O)) H → va_S (zb_A g) s.heap H locs → lv_has ls 3 [(0, .ref (g.2.2 + 306)), (1, .int a1), (2, .int a2)] → W p l e { frames := 3, cells := 0, slots := 0, locals := 68 } s m args below meth c H locs 0 0 (MQ below (zb_Po g nc (zb_ce g I Jq O) (some (.int r9))) args s 0 0 (zb_A g)) (F0 m 30 ls [.int x4, .ref (g.2.2 + 306)]) := by
      intro H locs ls hP hS hl
      refine lv_iconst (v := (2 : Int32)) hx hb dX8_setOffset_30 (by decide) ?_
      obtain ⟨x5, J6, hx5_J6, hf⟩ := ob2_e hf
      refine zr_cVi (rest := []) (As := [.int x4, .int (2 : Int32)]) X hP hS (ct_X8_throwsIf (g := g) (nc := nc) (I := I) (J := J2) (O := O) hnJ l  hx5_J6) cw_X8_64 (zr_recv X hP (Nat.lt_of_lt_of_le (zk_306).2.1 hnJ) (zb_ceJo zk_306 (by decide)) rfl) rfl hl.1 (Nat.le_of_ble_eq_true rfl) ⟨Nat.le_of_ble_eq_true rfl, Nat.le_of_ble_eq_true rfl⟩ ⟨Nat.le_of_ble_eq_true rfl, Nat.le_of_ble_eq_true rfl⟩ dX8_setOffset_31 rfl (fun H locs hP hS => ?_)
      refine lv_if_eq (tgt := 41) hx hb dX8_setOffset_34 (by decide) (fun hc => ?_) (fun hc => ?_)
      · have hf := if_t hc hf
        refine lv_aload_n hx hb dX8_setOffset_41 rfl (lv_at hl 0 rfl) ?_
        refine lv_bipush (v := (42 : Int32)) hx hb dX8_setOffset_42 (by decide) ?_
        refine lv_iload_n hx hb dX8_setOffset_44 rfl (lv_at hl 1 rfl) ?_
        refine lv_iadd hx hb dX8_setOffset_45 ?_
        refine lv_iload_n hx hb dX8_setOffset_46 rfl (lv_at hl 2 rfl) ?_
        obtain ⟨x7, J8, hx7_J8, hf⟩ := ob2_e hf
        refine zr_cVi (rest := []) (As := [.int ((42 : Int32) + a1), .int a2]) X hP hS (ct_X8_replaces (g := g) (nc := nc) (I := I) (J := J6) (O := O) hnJ l  hx7_J8) cw_X8_340 (zr_recv X hP (Nat.lt_of_lt_of_le (zk_306).2.1 hnJ) (zb_ceJo zk_306 (by decide)) rfl) rfl hl.1 (Nat.le_of_ble_eq_true rfl) ⟨Nat.le_of_ble_eq_true rfl, Nat.le_of_ble_eq_true rfl⟩ ⟨Nat.le_of_ble_eq_true rfl, Nat.le_of_ble_eq_true rfl⟩ dX8_setOffset_47 rfl (fun H locs hP hS => ?_)
        refine lv_bipush (v := (99 : Int32)) hx hb dX8_setOffset_50 (by decide) ?_
        refine lv_iadd hx hb dX8_setOffset_52 ?_
        cases hf
        exact K1 H locs ls hP hS (lv_sub hl [] rfl)
      · have hf := if_f hc hf
        refine lv_iconst (v := (0 : Int32)) hx hb dX8_setOffset_37 (by decide) ?_
        refine lv_goto (tgt := 53) hx hb dX8_setOffset_38 (by decide) ?_
        cases hf
        exact K1 H locs ls hP hS (lv_sub hl [] rfl)
    have hf := ht
    refine lv_if_ne (tgt := 29) hx hb dX8_setOffset_22 (by decide) (fun hc => ?_) (fun hc => ?_)
    · have hf := if_f hc hf
      refine lv_iconst (v := (0 : Int32)) hx hb dX8_setOffset_29 (by decide) ?_
      cases hf
      exact K2 H locs ls hP hS (lv_sub hl [0, 1, 2] rfl)
    · have hf := if_t hc hf
      refine lv_iconst (v := (1 : Int32)) hx hb dX8_setOffset_25 (by decide) ?_
      refine lv_goto (tgt := 30) hx hb dX8_setOffset_26 (by decide) ?_
      cases hf
      exact K2 H locs ls hP hS (lv_sub hl [0, 1, 2] rfl)
set_option maxHeartbeats 4000000 in
set_option maxRecDepth 100000 in
theorem ct_X8_setHold {g : zb_G} {nc : Nat} (hnJ : 318 ≤ nc) (l : Launch) {a1 : Int32} {a2 : Int32} {I J O : Mem} {r9 : Int32} {Jq : Mem} (hf : fX8_setHold a1 a2 J = some (r9, Jq)) : zb_Ct l g nc yX8_setHold cX8_setHold 3 (some .int) 3 68 [.ref (g.2.2 + 306), .int a1, .int a2] (zb_ce g I J O) (some (.int r9)) (zb_ce g I Jq O) := by
  refine zb_ofW (own := RX8) (by decide +kernel) rfl (Nat.le_of_ble_eq_true rfl) ?_
  intro p e s m args below meth c ls X hr hP hl
  have hx := X.1.1
  have hb := X.1.2.1
  have ho := X.1.2.2.2.1
  have hts := X.1.2.2.2.2
  have hZ := X.2.2.2
  have hl : lv_has ls 3 [(0, .ref (g.2.2 + 306)), (1, .int a1), (2, .int a2)] := hl
  have hS : va_S (zb_A g) s.heap s.heap [] := va_S.rf
  obtain ⟨H, hH⟩ : ∃ H, H = s.heap := ⟨_, rfl⟩
  obtain ⟨locs, hlocs⟩ : ∃ z : List Loc, z = [] := ⟨_, rfl⟩
  rw [← hH] at hP
  have hS : va_S (zb_A g) s.heap H locs := by rw [hH, hlocs]; exact hS
  show W p l e _ s m args below meth c s.heap [] 0 0 _ _
  rw [← hH, ← hlocs]
  rw [fX8_setHold] at hf
  refine lv_aload_n hx hb dX8_setHold_0 rfl (lv_at hl 0 rfl) ?_
  refine lv_iconst (v := (0 : Int32)) hx hb dX8_setHold_1 (by decide) ?_
  refine pf_X8_57 X hnJ hP hS zk_306 dX8_setHold_2 (fun H locs hP hS => ?_)
  refine lv_aload_n hx hb dX8_setHold_5 rfl (lv_at hl 0 rfl) ?_
  refine lv_iload_n hx hb dX8_setHold_6 rfl (lv_at hl 1 rfl) ?_
  obtain ⟨x1, J2, hx1_J2, hf⟩ := ob2_e hf
  refine zr_cVi (rest := []) (As := [.int a1]) X hP hS (ct_X8_noBuoy (g := g) (nc := nc) (I := I) (J := (wr J 306 0 (0 : Int32))) (O := O) hnJ l  hx1_J2) cw_X8_255 (zr_recv X hP (Nat.lt_of_lt_of_le (zk_306).2.1 hnJ) (zb_ceJo zk_306 (by decide)) rfl) rfl hl.1 (Nat.le_of_ble_eq_true rfl) ⟨Nat.le_of_ble_eq_true rfl, Nat.le_of_ble_eq_true rfl⟩ ⟨Nat.le_of_ble_eq_true rfl, Nat.le_of_ble_eq_true rfl⟩ dX8_setHold_7 rfl (fun H locs hP hS => ?_)
  obtain ⟨x9, J10, ht, hf⟩ := ob2_e hf
  have K1 : ∀ (H : Heap) (locs : List Loc) (ls : Array Slot), va_P g.1 vwCl (zb_ws g nc (zb_ce g I J10 O)) H → va_S (zb_A g) s.heap H locs → lv_has ls 3 [] → W p l e { frames := 3, cells := 0, slots := 0, locals := 68 } s m args below meth c H locs 0 0 (MQ below (zb_Po g nc (zb_ce g I Jq O) (some (.int r9))) args s 0 0 (zb_A g)) (F0 m 49 ls [.int x9]) := by
    intro H locs ls hP hS hl
    cases hf
    exact zr_iret X hr hP hS dX8_setHold_49
  have hf := ht
  refine lv_if_ne (tgt := 36) hx hb dX8_setHold_10 (by decide) (fun hc => ?_) (fun hc => ?_)
  · have hf := if_f hc hf
    refine lv_iconst (v := (0 : Int32)) hx hb dX8_setHold_36 (by decide) ?_
    refine lv_goto (tgt := 49) hx hb dX8_setHold_37 (by decide) ?_
    cases hf
    exact K1 H locs ls hP hS (lv_sub hl [] rfl)
  · have hf := if_t hc hf
    refine lv_aload_n hx hb dX8_setHold_13 rfl (lv_at hl 0 rfl) ?_
    refine lv_iload_n hx hb dX8_setHold_14 rfl (lv_at hl 2 rfl) ?_
    refine lv_iconst (v := (0 : Int32)) hx hb dX8_setHold_15 (by decide) ?_
    refine lv_bipush (v := (99 : Int32)) hx hb dX8_setHold_16 (by decide) ?_
    obtain ⟨x3, hx3, hf⟩ := ob_e hf
    refine zr_cSi (rest := [.ref (g.2.2 + 306)]) (As := [.int a2, .int (0 : Int32), .int (99 : Int32)]) X hP hS (ct_X8_within (g := g) (nc := nc) (I := I) (J := J2) (O := O)  l  hx3) cw_X8_60  rfl hl.1 (Nat.le_of_ble_eq_true rfl) ⟨Nat.le_of_ble_eq_true rfl, Nat.le_of_ble_eq_true rfl⟩ ⟨Nat.le_of_ble_eq_true rfl, Nat.le_of_ble_eq_true rfl⟩ dX8_setHold_18 rfl (fun H locs hP hS => ?_)
    obtain ⟨x4, ht, hf⟩ := pl_e hf
    have K2 : ∀ (H : Heap) (locs : List Loc) (ls : Array Slot), va_P g.1 vwCl (zb_ws g nc (zb_ce g I J2 O)) H → va_S (zb_A g) s.heap H locs → lv_has ls 3 [(0, .ref (g.2.2 + 306)), (1, .int a1), (2, .int a2)] → W p l e { frames := 3, cells := 0, slots := 0, locals := 68 } s m args below meth c H locs 0 0 (MQ below (zb_Po g nc (zb_ce g I Jq O) (some (.int r9))) args s 0 0 (zb_A g)) (F0 m 29 ls [.int x4, .ref (g.2.2 + 306)]) := by
      intro H locs ls hP hS hl
      refine lv_iconst (v := (2 : Int32)) hx hb dX8_setHold_29 (by decide) ?_
      obtain ⟨x5, J6, hx5_J6, hf⟩ := ob2_e hf
      refine zr_cVi (rest := []) (As := [.int x4, .int (2 : Int32)]) X hP hS (ct_X8_throwsIf (g := g) (nc := nc) (I := I) (J := J2) (O := O) hnJ l  hx5_J6) cw_X8_64 (zr_recv X hP (Nat.lt_of_lt_of_le (zk_306).2.1 hnJ) (zb_ceJo zk_306 (by decide)) rfl) rfl hl.1 (Nat.le_of_ble_eq_true rfl) ⟨Nat.le_of_ble_eq_true rfl, Nat.le_of_ble_eq_true rfl⟩ ⟨Nat.le_of_ble_eq_true rfl, Nat.le_of_ble_eq_true rfl⟩ dX8_setHold_30 rfl (fun H locs hP hS => ?_)
      refine lv_if_eq (tgt := 40) hx hb dX8_setHold_33 (by decide) (fun hc => ?_) (fun hc => ?_)
      · have hf := if_t hc hf
        refine lv_aload_n hx hb dX8_setHold_40 rfl (lv_at hl 0 rfl) ?_
        refine lv_bipush (v := (32 : Int32)) hx hb dX8_setHold_41 (by decide) ?_
        refine lv_iload_n hx hb dX8_setHold_43 rfl (lv_at hl 1 rfl) ?_
        refine lv_iadd hx hb dX8_setHold_44 ?_
        refine lv_iload_n hx hb dX8_setHold_45 rfl (lv_at hl 2 rfl) ?_
        obtain ⟨x7, J8, hx7_J8, hf⟩ := ob2_e hf
        refine zr_cVi (rest := []) (As := [.int ((32 : Int32) + a1), .int a2]) X hP hS (ct_X8_replaces (g := g) (nc := nc) (I := I) (J := J6) (O := O) hnJ l  hx7_J8) cw_X8_340 (zr_recv X hP (Nat.lt_of_lt_of_le (zk_306).2.1 hnJ) (zb_ceJo zk_306 (by decide)) rfl) rfl hl.1 (Nat.le_of_ble_eq_true rfl) ⟨Nat.le_of_ble_eq_true rfl, Nat.le_of_ble_eq_true rfl⟩ ⟨Nat.le_of_ble_eq_true rfl, Nat.le_of_ble_eq_true rfl⟩ dX8_setHold_46 rfl (fun H locs hP hS => ?_)
        cases hf
        exact K1 H locs ls hP hS (lv_sub hl [] rfl)
      · have hf := if_f hc hf
        refine lv_iconst (v := (0 : Int32)) hx hb dX8_setHold_36 (by decide) ?_
        refine lv_goto (tgt := 49) hx hb dX8_setHold_37 (by decide) ?_
        cases hf
        exact K1 H locs ls hP hS (lv_sub hl [] rfl)
    have hf := ht
    refine lv_if_ne (tgt := 28) hx hb dX8_setHold_21 (by decide) (fun hc => ?_) (fun hc => ?_)
    · have hf := if_f hc hf
      refine lv_iconst (v := (0 : Int32)) hx hb dX8_setHold_28 (by decide) ?_
      cases hf
      exact K2 H locs ls hP hS (lv_sub hl [0, 1, 2] rfl)
    · have hf := if_t hc hf
      refine lv_iconst (v := (1 : Int32)) hx hb dX8_setHold_24 (by decide) ?_
      refine lv_goto (tgt := 29) hx hb dX8_setHold_25 (by decide) ?_
      cases hf
      exact K2 H locs ls hP hS (lv_sub hl [0, 1, 2] rfl)
set_option maxHeartbeats 4000000 in
set_option maxRecDepth 100000 in
theorem ct_X8_setTerms {g : zb_G} {nc : Nat} (hnJ : 318 ≤ nc) (l : Launch) {a1 : Int32} {a2 : Int32} {a3 : Int32} {I J O : Mem} {r9 : Int32} {Jq : Mem} (hf : fX8_setTerms a1 a2 a3 J = some (r9, Jq)) : zb_Ct l g nc yX8_setTerms cX8_setTerms 5 (some .int) 3 68 [.ref (g.2.2 + 306), .int a1, .int a2, .int a3] (zb_ce g I J O) (some (.int r9)) (zb_ce g I Jq O) := by
  refine zb_ofW (own := RX8) (by decide +kernel) rfl (Nat.le_of_ble_eq_true rfl) ?_
  intro p e s m args below meth c ls X hr hP hl
  have hx := X.1.1
  have hb := X.1.2.1
  have ho := X.1.2.2.2.1
  have hts := X.1.2.2.2.2
  have hZ := X.2.2.2
  have hl : lv_has ls 5 [(0, .ref (g.2.2 + 306)), (1, .int a1), (2, .int a2), (3, .int a3)] := hl
  have hS : va_S (zb_A g) s.heap s.heap [] := va_S.rf
  obtain ⟨H, hH⟩ : ∃ H, H = s.heap := ⟨_, rfl⟩
  obtain ⟨locs, hlocs⟩ : ∃ z : List Loc, z = [] := ⟨_, rfl⟩
  rw [← hH] at hP
  have hS : va_S (zb_A g) s.heap H locs := by rw [hH, hlocs]; exact hS
  show W p l e _ s m args below meth c s.heap [] 0 0 _ _
  rw [← hH, ← hlocs]
  rw [fX8_setTerms] at hf
  refine lv_aload_n hx hb dX8_setTerms_0 rfl (lv_at hl 0 rfl) ?_
  refine lv_iconst (v := (0 : Int32)) hx hb dX8_setTerms_1 (by decide) ?_
  refine pf_X8_57 X hnJ hP hS zk_306 dX8_setTerms_2 (fun H locs hP hS => ?_)
  refine lv_aload_n hx hb dX8_setTerms_5 rfl (lv_at hl 0 rfl) ?_
  refine lv_iload_n hx hb dX8_setTerms_6 rfl (lv_at hl 1 rfl) ?_
  refine lv_iconst (v := (0 : Int32)) hx hb dX8_setTerms_7 (by decide) ?_
  refine lv_sipush (v := (999 : Int32)) hx hb dX8_setTerms_8 (by decide) ?_
  obtain ⟨x1, hx1, hf⟩ := ob_e hf
  refine zr_cSi (rest := [.ref (g.2.2 + 306)]) (As := [.int a1, .int (0 : Int32), .int (999 : Int32)]) X hP hS (ct_X8_within (g := g) (nc := nc) (I := I) (J := (wr J 306 0 (0 : Int32))) (O := O)  l  hx1) cw_X8_60  rfl hl.1 (Nat.le_of_ble_eq_true rfl) ⟨Nat.le_of_ble_eq_true rfl, Nat.le_of_ble_eq_true rfl⟩ ⟨Nat.le_of_ble_eq_true rfl, Nat.le_of_ble_eq_true rfl⟩ dX8_setTerms_11 rfl (fun H locs hP hS => ?_)
  obtain ⟨x4, ht, hf⟩ := ob_e hf
  have K1 : ∀ (H : Heap) (locs : List Loc) (ls : Array Slot), va_P g.1 vwCl (zb_ws g nc (zb_ce g I (wr J 306 0 (0 : Int32)) O)) H → va_S (zb_A g) s.heap H locs → lv_has ls 5 [(0, .ref (g.2.2 + 306)), (1, .int a1), (2, .int a2), (3, .int a3)] → W p l e { frames := 3, cells := 0, slots := 0, locals := 68 } s m args below meth c H locs 0 0 (MQ below (zb_Po g nc (zb_ce g I Jq O) (some (.int r9))) args s 0 0 (zb_A g)) (F0 m 42 ls [.int x4, .ref (g.2.2 + 306)]) := by
    intro H locs ls hP hS hl
    refine lv_iconst (v := (1 : Int32)) hx hb dX8_setTerms_42 (by decide) ?_
    obtain ⟨x5, J6, hx5_J6, hf⟩ := ob2_e hf
    refine zr_cVi (rest := []) (As := [.int x4, .int (1 : Int32)]) X hP hS (ct_X8_throwsIf (g := g) (nc := nc) (I := I) (J := (wr J 306 0 (0 : Int32))) (O := O) hnJ l  hx5_J6) cw_X8_64 (zr_recv X hP (Nat.lt_of_lt_of_le (zk_306).2.1 hnJ) (zb_ceJo zk_306 (by decide)) rfl) rfl hl.1 (Nat.le_of_ble_eq_true rfl) ⟨Nat.le_of_ble_eq_true rfl, Nat.le_of_ble_eq_true rfl⟩ ⟨Nat.le_of_ble_eq_true rfl, Nat.le_of_ble_eq_true rfl⟩ dX8_setTerms_43 rfl (fun H locs hP hS => ?_)
    refine lv_if_eq (tgt := 51) hx hb dX8_setTerms_46 (by decide) (fun hc => ?_) (fun hc => ?_)
    · have hf := if_t hc hf
      refine lv_aload_n hx hb dX8_setTerms_51 rfl (lv_at hl 0 rfl) ?_
      refine lv_iconst (v := (1 : Int32)) hx hb dX8_setTerms_52 (by decide) ?_
      refine lv_iload_n hx hb dX8_setTerms_53 rfl (lv_at hl 1 rfl) ?_
      obtain ⟨x7, J8, hx7_J8, hf⟩ := ob2_e hf
      refine zr_cVi (rest := []) (As := [.int (1 : Int32), .int a1]) X hP hS (ct_X8_replaces (g := g) (nc := nc) (I := I) (J := J6) (O := O) hnJ l  hx7_J8) cw_X8_340 (zr_recv X hP (Nat.lt_of_lt_of_le (zk_306).2.1 hnJ) (zb_ceJo zk_306 (by decide)) rfl) rfl hl.1 (Nat.le_of_ble_eq_true rfl) ⟨Nat.le_of_ble_eq_true rfl, Nat.le_of_ble_eq_true rfl⟩ ⟨Nat.le_of_ble_eq_true rfl, Nat.le_of_ble_eq_true rfl⟩ dX8_setTerms_54 rfl (fun H locs hP hS => ?_)
      refine lv_istore (lv' := [(4, .int x7), (0, .ref (g.2.2 + 306)), (1, .int a1), (2, .int a2), (3, .int a3)]) hx hb dX8_setTerms_57 hl (by decide) rfl (fun ls hl => ?_)
      refine lv_aload_n hx hb dX8_setTerms_59 rfl (lv_at hl 1 rfl) ?_
      refine gf_X8_7 X hnJ hP zk_306 dX8_setTerms_60 ?_
      refine lv_iconst (v := (2 : Int32)) hx hb dX8_setTerms_63 (by decide) ?_
      refine lv_iload_n hx hb dX8_setTerms_64 rfl (lv_at hl 3 rfl) ?_
      obtain ⟨J9, hJ9, hf⟩ := ob_e hf
      refine zr_astJ X hP hS hnJ zk_307 hJ9 dX8_setTerms_65 (fun H locs hP hS => ?_)
      refine lv_aload_n hx hb dX8_setTerms_66 rfl (lv_at hl 1 rfl) ?_
      refine gf_X8_7 X hnJ hP zk_306 dX8_setTerms_67 ?_
      refine lv_iconst (v := (3 : Int32)) hx hb dX8_setTerms_70 (by decide) ?_
      refine lv_iload_n hx hb dX8_setTerms_71 rfl (lv_at hl 4 rfl) ?_
      obtain ⟨J10, hJ10, hf⟩ := ob_e hf
      refine zr_astJ X hP hS hnJ zk_307 hJ10 dX8_setTerms_72 (fun H locs hP hS => ?_)
      refine lv_iload hx hb dX8_setTerms_73 (lv_at hl 0 rfl) ?_
      cases hf
      exact zr_iret X hr hP hS dX8_setTerms_75
    · have hf := if_f hc hf
      refine lv_iconst (v := (0 : Int32)) hx hb dX8_setTerms_49 (by decide) ?_
      cases hf
      exact zr_iret X hr hP hS dX8_setTerms_50
  have hf := ht
  refine lv_if_eq (tgt := 37) hx hb dX8_setTerms_14 (by decide) (fun hc => ?_) (fun hc => ?_)
  · have hf := if_t hc hf
    refine lv_iconst (v := (1 : Int32)) hx hb dX8_setTerms_37 (by decide) ?_
    refine lv_goto (tgt := 42) hx hb dX8_setTerms_38 (by decide) ?_
    cases hf
    exact K1 H locs ls hP hS (lv_sub hl [0, 1, 2, 3] rfl)
  · have hf := if_f hc hf
    refine lv_iload_n hx hb dX8_setTerms_17 rfl (lv_at hl 2 rfl) ?_
    refine lv_iconst (v := (1 : Int32)) hx hb dX8_setTerms_18 (by decide) ?_
    refine lv_bipush (v := (9 : Int32)) hx hb dX8_setTerms_19 (by decide) ?_
    obtain ⟨x2, hx2, hf⟩ := ob_e hf
    refine zr_cSi (rest := [.ref (g.2.2 + 306)]) (As := [.int a2, .int (1 : Int32), .int (9 : Int32)]) X hP hS (ct_X8_within (g := g) (nc := nc) (I := I) (J := (wr J 306 0 (0 : Int32))) (O := O)  l  hx2) cw_X8_60  rfl hl.1 (Nat.le_of_ble_eq_true rfl) ⟨Nat.le_of_ble_eq_true rfl, Nat.le_of_ble_eq_true rfl⟩ ⟨Nat.le_of_ble_eq_true rfl, Nat.le_of_ble_eq_true rfl⟩ dX8_setTerms_21 rfl (fun H locs hP hS => ?_)
    refine lv_if_eq (tgt := 37) hx hb dX8_setTerms_24 (by decide) (fun hc => ?_) (fun hc => ?_)
    · have hf := if_t hc hf
      refine lv_iconst (v := (1 : Int32)) hx hb dX8_setTerms_37 (by decide) ?_
      refine lv_goto (tgt := 42) hx hb dX8_setTerms_38 (by decide) ?_
      cases hf
      exact K1 H locs ls hP hS (lv_sub hl [0, 1, 2, 3] rfl)
    · have hf := if_f hc hf
      refine lv_iload_n hx hb dX8_setTerms_27 rfl (lv_at hl 3 rfl) ?_
      refine lv_iconst (v := (1 : Int32)) hx hb dX8_setTerms_28 (by decide) ?_
      refine lv_bipush (v := (9 : Int32)) hx hb dX8_setTerms_29 (by decide) ?_
      obtain ⟨x3, hx3, hf⟩ := ob_e hf
      refine zr_cSi (rest := [.ref (g.2.2 + 306)]) (As := [.int a3, .int (1 : Int32), .int (9 : Int32)]) X hP hS (ct_X8_within (g := g) (nc := nc) (I := I) (J := (wr J 306 0 (0 : Int32))) (O := O)  l  hx3) cw_X8_60  rfl hl.1 (Nat.le_of_ble_eq_true rfl) ⟨Nat.le_of_ble_eq_true rfl, Nat.le_of_ble_eq_true rfl⟩ ⟨Nat.le_of_ble_eq_true rfl, Nat.le_of_ble_eq_true rfl⟩ dX8_setTerms_31 rfl (fun H locs hP hS => ?_)
      refine lv_if_ne (tgt := 41) hx hb dX8_setTerms_34 (by decide) (fun hc => ?_) (fun hc => ?_)
      · have hf := if_f hc hf
        refine lv_iconst (v := (0 : Int32)) hx hb dX8_setTerms_41 (by decide) ?_
        cases hf
        exact K1 H locs ls hP hS (lv_sub hl [0, 1, 2, 3] rfl)
      · have hf := if_t hc hf
        refine lv_iconst (v := (1 : Int32)) hx hb dX8_setTerms_37 (by decide) ?_
        refine lv_goto (tgt := 42) hx hb dX8_setTerms_38 (by decide) ?_
        cases hf
        exact K1 H locs ls hP hS (lv_sub hl [0, 1, 2, 3] rfl)
set_option maxHeartbeats 4000000 in
set_option maxRecDepth 100000 in
theorem ct_X8_emits {g : zb_G} {nc : Nat} (hnJ : 318 ≤ nc) (l : Launch) {a1 : Int32} {I J O : Mem} {Jq : Mem} (hf : fX8_emits a1 J = some Jq) : zb_Ct l g nc yX8_emits cX8_emits 2 none 0 0 [.ref (g.2.2 + 306), .int a1] (zb_ce g I J O) none (zb_ce g I Jq O) := by
  refine zb_ofW (own := RX8) (by decide +kernel) rfl (Nat.le_of_ble_eq_true rfl) ?_
  intro p e s m args below meth c ls X hr hP hl
  have hx := X.1.1
  have hb := X.1.2.1
  have ho := X.1.2.2.2.1
  have hts := X.1.2.2.2.2
  have hZ := X.2.2.2
  have hl : lv_has ls 2 [(0, .ref (g.2.2 + 306)), (1, .int a1)] := hl
  have hS : va_S (zb_A g) s.heap s.heap [] := va_S.rf
  obtain ⟨H, hH⟩ : ∃ H, H = s.heap := ⟨_, rfl⟩
  obtain ⟨locs, hlocs⟩ : ∃ z : List Loc, z = [] := ⟨_, rfl⟩
  rw [← hH] at hP
  have hS : va_S (zb_A g) s.heap H locs := by rw [hH, hlocs]; exact hS
  show W p l e _ s m args below meth c s.heap [] 0 0 _ _
  rw [← hH, ← hlocs]
  rw [fX8_emits] at hf
  refine lv_aload_n hx hb dX8_emits_0 rfl (lv_at hl 0 rfl) ?_
  refine gf_X8_43 X hnJ hP zk_306 dX8_emits_1 ?_
  refine lv_aload_n hx hb dX8_emits_4 rfl (lv_at hl 0 rfl) ?_
  refine gf_X8_343 X hnJ hP zk_306 dX8_emits_5 ?_
  refine lv_iload_n hx hb dX8_emits_8 rfl (lv_at hl 1 rfl) ?_
  obtain ⟨J1, hJ1, hf⟩ := ob_e hf
  refine zr_astJ X hP hS hnJ zk_316 hJ1 dX8_emits_9 (fun H locs hP hS => ?_)
  refine lv_aload_n hx hb dX8_emits_10 rfl (lv_at hl 0 rfl) ?_
  refine lv_dup hx hb dX8_emits_11 rfl ?_
  refine gf_X8_343 X hnJ hP zk_306 dX8_emits_12 ?_
  refine lv_iconst (v := (1 : Int32)) hx hb dX8_emits_15 (by decide) ?_
  refine lv_iadd hx hb dX8_emits_16 ?_
  refine pf_X8_343 X hnJ hP hS zk_306 dX8_emits_17 (fun H locs hP hS => ?_)
  cases hf
  exact zr_vret X hr hP hS rfl dX8_emits_20
set_option maxHeartbeats 4000000 in
set_option maxRecDepth 100000 in
theorem ct_X8_takesCode {g : zb_G} {nc : Nat} (hnJ : 318 ≤ nc) (l : Launch) {a1 : Int32} {a2 : Int32} {I J O : Mem} {r9 : Int32} {Jq : Mem} (hf : fX8_takesCode a1 a2 J = some (r9, Jq)) : zb_Ct l g nc yX8_takesCode cX8_takesCode 3 (some .boolean) 5 107 [.ref (g.2.2 + 306), .int a1, .int a2] (zb_ce g I J O) (some (.int r9)) (zb_ce g I Jq O) := by
  refine zb_ofW (own := RX8) (by decide +kernel) rfl (Nat.le_of_ble_eq_true rfl) ?_
  intro p e s m args below meth c ls X hr hP hl
  have hx := X.1.1
  have hb := X.1.2.1
  have ho := X.1.2.2.2.1
  have hts := X.1.2.2.2.2
  have hZ := X.2.2.2
  have hl : lv_has ls 3 [(0, .ref (g.2.2 + 306)), (1, .int a1), (2, .int a2)] := hl
  have hS : va_S (zb_A g) s.heap s.heap [] := va_S.rf
  obtain ⟨H, hH⟩ : ∃ H, H = s.heap := ⟨_, rfl⟩
  obtain ⟨locs, hlocs⟩ : ∃ z : List Loc, z = [] := ⟨_, rfl⟩
  rw [← hH] at hP
  have hS : va_S (zb_A g) s.heap H locs := by rw [hH, hlocs]; exact hS
  show W p l e _ s m args below meth c s.heap [] 0 0 _ _
  rw [← hH, ← hlocs]
  rw [fX8_takesCode] at hf
  refine lv_aload_n hx hb dX8_takesCode_0 rfl (lv_at hl 0 rfl) ?_
  refine lv_iload_n hx hb dX8_takesCode_1 rfl (lv_at hl 1 rfl) ?_
  refine lv_iload_n hx hb dX8_takesCode_2 rfl (lv_at hl 2 rfl) ?_
  obtain ⟨x1, J2, hx1_J2, hf⟩ := ob2_e hf
  refine zr_cVi (rest := []) (As := [.int a1, .int a2]) X hP hS (ct_X8_takes (g := g) (nc := nc) (I := I) (J := J) (O := O) hnJ l  hx1_J2) cw_X8_131 (zr_recv X hP (Nat.lt_of_lt_of_le (zk_306).2.1 hnJ) (zb_ceJo zk_306 (by decide)) rfl) rfl hl.1 (Nat.le_of_ble_eq_true rfl) ⟨Nat.le_of_ble_eq_true rfl, Nat.le_of_ble_eq_true rfl⟩ ⟨Nat.le_of_ble_eq_true rfl, Nat.le_of_ble_eq_true rfl⟩ dX8_takesCode_3 rfl (fun H locs hP hS => ?_)
  refine lv_if_ne (tgt := 11) hx hb dX8_takesCode_6 (by decide) (fun hc => ?_) (fun hc => ?_)
  · have hf := if_f hc hf
    refine lv_aload_n hx hb dX8_takesCode_11 rfl (lv_at hl 0 rfl) ?_
    refine lv_aload_n hx hb dX8_takesCode_12 rfl (lv_at hl 0 rfl) ?_
    refine gf_X8_120 X hnJ hP zk_306 dX8_takesCode_13 ?_
    obtain ⟨J3, hJ3, hf⟩ := ob_e hf
    refine zr_cVv (rest := []) (As := [.int (J2 306 17)]) X hP hS (ct_X8_emits (g := g) (nc := nc) (I := I) (J := J2) (O := O) hnJ l  hJ3) cw_X8_346 (zr_recv X hP (Nat.lt_of_lt_of_le (zk_306).2.1 hnJ) (zb_ceJo zk_306 (by decide)) rfl) rfl hl.1 (Nat.le_of_ble_eq_true rfl) ⟨Nat.le_of_ble_eq_true rfl, Nat.le_of_ble_eq_true rfl⟩ ⟨Nat.le_of_ble_eq_true rfl, Nat.le_of_ble_eq_true rfl⟩ dX8_takesCode_16 rfl (fun H locs hP hS => ?_)
    refine lv_iconst (v := (1 : Int32)) hx hb dX8_takesCode_19 (by decide) ?_
    obtain ⟨v9, hv9, hf⟩ := ob_e hf
    obtain ⟨hn9, he9⟩ := zbo_e hv9
    cases hf
    cases he9
    exact zr_zret X hr hn9 hP hS dX8_takesCode_20
  · have hf := if_t hc hf
    refine lv_iconst (v := (0 : Int32)) hx hb dX8_takesCode_9 (by decide) ?_
    obtain ⟨v9, hv9, hf⟩ := ob_e hf
    obtain ⟨hn9, he9⟩ := zbo_e hv9
    cases hf
    cases he9
    exact zr_zret X hr hn9 hP hS dX8_takesCode_10
set_option maxHeartbeats 4000000 in
set_option maxRecDepth 100000 in
theorem ct_X8_takesBuoy {g : zb_G} {nc : Nat} (hnJ : 318 ≤ nc) (l : Launch) {I J O : Mem} {r9 : Int32} {Jq : Mem} (hf : fX8_takesBuoy J = some (r9, Jq)) : zb_Ct l g nc yX8_takesBuoy cX8_takesBuoy 1 (some .boolean) 6 129 [.ref (g.2.2 + 306)] (zb_ce g I J O) (some (.int r9)) (zb_ce g I Jq O) := by
  refine zb_ofW (own := RX8) (by decide +kernel) rfl (Nat.le_of_ble_eq_true rfl) ?_
  intro p e s m args below meth c ls X hr hP hl
  have hx := X.1.1
  have hb := X.1.2.1
  have ho := X.1.2.2.2.1
  have hts := X.1.2.2.2.2
  have hZ := X.2.2.2
  have hl : lv_has ls 1 [(0, .ref (g.2.2 + 306))] := hl
  have hS : va_S (zb_A g) s.heap s.heap [] := va_S.rf
  obtain ⟨H, hH⟩ : ∃ H, H = s.heap := ⟨_, rfl⟩
  obtain ⟨locs, hlocs⟩ : ∃ z : List Loc, z = [] := ⟨_, rfl⟩
  rw [← hH] at hP
  have hS : va_S (zb_A g) s.heap H locs := by rw [hH, hlocs]; exact hS
  show W p l e _ s m args below meth c s.heap [] 0 0 _ _
  rw [← hH, ← hlocs]
  rw [fX8_takesBuoy] at hf
  refine lv_aload_n hx hb dX8_takesBuoy_0 rfl (lv_at hl 0 rfl) ?_
  refine lv_iconst (v := (0 : Int32)) hx hb dX8_takesBuoy_1 (by decide) ?_
  refine lv_aload_n hx hb dX8_takesBuoy_2 rfl (lv_at hl 0 rfl) ?_
  refine gf_X8_7 X hnJ hP zk_306 dX8_takesBuoy_3 ?_
  refine lv_iconst (v := (0 : Int32)) hx hb dX8_takesBuoy_6 (by decide) ?_
  obtain ⟨x1, hx1, hf⟩ := ob_e hf
  refine zr_aldJ X hP hnJ zk_307 hx1 dX8_takesBuoy_7 ?_
  refine lv_iconst (v := (1 : Int32)) hx hb dX8_takesBuoy_8 (by decide) ?_
  refine lv_isub hx hb dX8_takesBuoy_9 ?_
  obtain ⟨x2, J3, hx2_J3, hf⟩ := ob2_e hf
  refine zr_cVi (rest := []) (As := [.int (0 : Int32), .int (x1 - (1 : Int32))]) X hP hS (ct_X8_takesCode (g := g) (nc := nc) (I := I) (J := J) (O := O) hnJ l  hx2_J3) cw_X8_349 (zr_recv X hP (Nat.lt_of_lt_of_le (zk_306).2.1 hnJ) (zb_ceJo zk_306 (by decide)) rfl) rfl hl.1 (Nat.le_of_ble_eq_true rfl) ⟨Nat.le_of_ble_eq_true rfl, Nat.le_of_ble_eq_true rfl⟩ ⟨Nat.le_of_ble_eq_true rfl, Nat.le_of_ble_eq_true rfl⟩ dX8_takesBuoy_10 rfl (fun H locs hP hS => ?_)
  obtain ⟨v9, hv9, hf⟩ := ob_e hf
  obtain ⟨hn9, he9⟩ := zbo_e hv9
  cases hf
  cases he9
  exact zr_zret X hr hn9 hP hS dX8_takesBuoy_13
set_option maxHeartbeats 4000000 in
set_option maxRecDepth 100000 in
theorem lpX8_readHour_L12 {g : zb_G} {nc : Nat} (hnJ : 318 ≤ nc) (l : Launch) {a1 : Int32} {I O : Mem} {p : Program} {e : Env} {s : State} {m : MethodId} {args : Array Value} {below : List Frame} {meth : Method} {c : Code} {Q : State → Prop} (X : zb_X g p m c cX8_readHour 3 s args RX8 meth) : ∀ {n9 : Nat} {a2 : Int32} {J : Mem} {tq : Nat} {v9 : Int32} {Jz : Mem} {H : Heap} {locs : List Loc} {ls : Array Slot}, fX8_readHour_L12 a1 n9 a2 J = some (tq, v9, Jz) → (tq = 0 → ∀ (H : Heap) (locs : List Loc) (ls : Array Slot), va_P g.1 vwCl (zb_ws g nc (zb_ce g I Jz O)) H → va_S (zb_A g) s.heap H locs → lv_has ls 3 [] → W p l e { frames := 6, cells := 0, slots := 0, locals := 129 } s m args below meth c H locs 0 0 Q (F0 m 109 ls [])) → (tq = 1 → ∀ (H : Heap) (locs : List Loc) (ls : Array Slot) (pc : Nat), decode cX8_readHour pc = .ok (.ireturn, 1) → va_P g.1 vwCl (zb_ws g nc (zb_ce g I Jz O)) H → va_S (zb_A g) s.heap H locs → W p l e { frames := 6, cells := 0, slots := 0, locals := 129 } s m args below meth c H locs 0 0 Q (F0 m pc ls [.int v9])) → va_P g.1 vwCl (zb_ws g nc (zb_ce g I J O)) H → va_S (zb_A g) s.heap H locs → lv_has ls 3 [(2, .int a2), (1, .int a1), (0, .ref (g.2.2 + 306))] → W p l e { frames := 6, cells := 0, slots := 0, locals := 129 } s m args below meth c H locs 0 0 Q (F0 m 12 ls []) := by
  have hx := X.1.1
  have hb := X.1.2.1
  have ho := X.1.2.2.2.1
  have hts := X.1.2.2.2.2
  have hZ := X.2.2.2
  intro n9
  induction n9 with
  | zero =>
    intro a2 J tq v9 Jz H locs ls hf
    exact nomatch hf
  | succ n9 ih =>
    intro a2 J tq v9 Jz H locs ls hf KK K1 hP hS hl
    rw [fX8_readHour_L12] at hf
    refine lv_aload_n hx hb dX8_readHour_12 rfl (lv_at hl 2 rfl) ?_
    refine gf_X8_91 X hnJ hP zk_306 dX8_readHour_13 ?_
    refine lv_iconst (v := (2 : Int32)) hx hb dX8_readHour_16 (by decide) ?_
    refine lv_icmp_ne (tgt := 109) hx hb dX8_readHour_17 (by decide) (fun hc => ?_) (fun hc => ?_)
    · have hf := if_f hc hf
      cases hf
      exact KK rfl H locs ls hP hS (lv_sub hl [] rfl)
    · have hf := if_t hc hf
      refine lv_aload_n hx hb dX8_readHour_20 rfl (lv_at hl 2 rfl) ?_
      refine lv_iconst (v := (0 : Int32)) hx hb dX8_readHour_21 (by decide) ?_
      refine lv_aload_n hx hb dX8_readHour_22 rfl (lv_at hl 2 rfl) ?_
      refine gf_X8_7 X hnJ hP zk_306 dX8_readHour_23 ?_
      refine lv_iconst (v := (0 : Int32)) hx hb dX8_readHour_26 (by decide) ?_
      obtain ⟨x2, hx2, hf⟩ := ob_e hf
      refine zr_aldJ X hP hnJ zk_307 hx2 dX8_readHour_27 ?_
      refine lv_iconst (v := (1 : Int32)) hx hb dX8_readHour_28 (by decide) ?_
      refine lv_isub hx hb dX8_readHour_29 ?_
      obtain ⟨x3, J4, hx3_J4, hf⟩ := ob2_e hf
      refine zr_cVi (rest := []) (As := [.int (0 : Int32), .int (x2 - (1 : Int32))]) X hP hS (ct_X8_stands (g := g) (nc := nc) (I := I) (J := J) (O := O) hnJ l  hx3_J4) cw_X8_123 (zr_recv X hP (Nat.lt_of_lt_of_le (zk_306).2.1 hnJ) (zb_ceJo zk_306 (by decide)) rfl) rfl hl.1 (Nat.le_of_ble_eq_true rfl) ⟨Nat.le_of_ble_eq_true rfl, Nat.le_of_ble_eq_true rfl⟩ ⟨Nat.le_of_ble_eq_true rfl, Nat.le_of_ble_eq_true rfl⟩ dX8_readHour_30 rfl (fun H locs hP hS => ?_)
      refine lv_if_ne (tgt := 38) hx hb dX8_readHour_33 (by decide) (fun hc => ?_) (fun hc => ?_)
      · have hf := if_f hc hf
        refine lv_iload_n hx hb dX8_readHour_38 rfl (lv_at hl 0 rfl) ?_
        refine lv_aload_n hx hb dX8_readHour_39 rfl (lv_at hl 2 rfl) ?_
        refine gf_X8_120 X hnJ hP zk_306 dX8_readHour_40 ?_
        obtain ⟨x5, hx5, hf⟩ := ob_e hf
        refine zr_cSi (rest := []) (As := [.int a2, .int (J4 306 17)]) X hP hS (ct_X8_has (g := g) (nc := nc) (I := I) (J := J4) (O := O)  l  hx5) cw_X8_176  rfl hl.1 (Nat.le_of_ble_eq_true rfl) ⟨Nat.le_of_ble_eq_true rfl, Nat.le_of_ble_eq_true rfl⟩ ⟨Nat.le_of_ble_eq_true rfl, Nat.le_of_ble_eq_true rfl⟩ dX8_readHour_43 rfl (fun H locs hP hS => ?_)
        refine lv_if_eq (tgt := 55) hx hb dX8_readHour_46 (by decide) (fun hc => ?_) (fun hc => ?_)
        · have hf := if_t hc hf
          refine lv_iload_n hx hb dX8_readHour_55 rfl (lv_at hl 0 rfl) ?_
          refine lv_iconst (v := (1 : Int32)) hx hb dX8_readHour_56 (by decide) ?_
          refine lv_aload_n hx hb dX8_readHour_57 rfl (lv_at hl 2 rfl) ?_
          refine gf_X8_120 X hnJ hP zk_306 dX8_readHour_58 ?_
          refine lv_ishl hx hb dX8_readHour_61 ?_
          refine lv_ior hx hb dX8_readHour_62 ?_
          refine lv_istore_n (lv' := [(2, .int (a2 ||| ((1 : Int32) <<< ((J4 306 17) &&& 31)))), (1, .int a1), (0, .ref (g.2.2 + 306))]) hx hb dX8_readHour_63 rfl hl (by decide) rfl (fun ls hl => ?_)
          refine lv_aload_n hx hb dX8_readHour_64 rfl (lv_at hl 2 rfl) ?_
          refine lv_aload_n hx hb dX8_readHour_65 rfl (lv_at hl 2 rfl) ?_
          refine gf_X8_120 X hnJ hP zk_306 dX8_readHour_66 ?_
          obtain ⟨J6, hJ6, hf⟩ := ob_e hf
          refine zr_cVv (rest := []) (As := [.int (J4 306 17)]) X hP hS (ct_X8_emits (g := g) (nc := nc) (I := I) (J := J4) (O := O) hnJ l  hJ6) cw_X8_346 (zr_recv X hP (Nat.lt_of_lt_of_le (zk_306).2.1 hnJ) (zb_ceJo zk_306 (by decide)) rfl) rfl hl.1 (Nat.le_of_ble_eq_true rfl) ⟨Nat.le_of_ble_eq_true rfl, Nat.le_of_ble_eq_true rfl⟩ ⟨Nat.le_of_ble_eq_true rfl, Nat.le_of_ble_eq_true rfl⟩ dX8_readHour_69 rfl (fun H locs hP hS => ?_)
          refine lv_aload_n hx hb dX8_readHour_72 rfl (lv_at hl 2 rfl) ?_
          obtain ⟨J7, hJ7, hf⟩ := ob_e hf
          refine zr_cVv (rest := []) (As := []) X hP hS (ct_X8_advance (g := g) (nc := nc) (I := I) (J := J6) (O := O) hnJ l  hJ7) cw_X8_117 (zr_recv X hP (Nat.lt_of_lt_of_le (zk_306).2.1 hnJ) (zb_ceJo zk_306 (by decide)) rfl) rfl hl.1 (Nat.le_of_ble_eq_true rfl) ⟨Nat.le_of_ble_eq_true rfl, Nat.le_of_ble_eq_true rfl⟩ ⟨Nat.le_of_ble_eq_true rfl, Nat.le_of_ble_eq_true rfl⟩ dX8_readHour_73 rfl (fun H locs hP hS => ?_)
          refine lv_aload_n hx hb dX8_readHour_76 rfl (lv_at hl 2 rfl) ?_
          refine lv_sipush (v := (9999 : Int32)) hx hb dX8_readHour_77 (by decide) ?_
          obtain ⟨x8, J9, hx8_J9, hf⟩ := ob2_e hf
          refine zr_cVi (rest := []) (As := [.int (9999 : Int32)]) X hP hS (ct_X8_takesSigned (g := g) (nc := nc) (I := I) (J := J7) (O := O) hnJ l  hx8_J9) cw_X8_137 (zr_recv X hP (Nat.lt_of_lt_of_le (zk_306).2.1 hnJ) (zb_ceJo zk_306 (by decide)) rfl) rfl hl.1 (Nat.le_of_ble_eq_true rfl) ⟨Nat.le_of_ble_eq_true rfl, Nat.le_of_ble_eq_true rfl⟩ ⟨Nat.le_of_ble_eq_true rfl, Nat.le_of_ble_eq_true rfl⟩ dX8_readHour_80 rfl (fun H locs hP hS => ?_)
          refine lv_if_ne (tgt := 88) hx hb dX8_readHour_83 (by decide) (fun hc => ?_) (fun hc => ?_)
          · have hf := if_f hc hf
            refine lv_aload_n hx hb dX8_readHour_88 rfl (lv_at hl 2 rfl) ?_
            refine lv_aload_n hx hb dX8_readHour_89 rfl (lv_at hl 2 rfl) ?_
            refine gf_X8_120 X hnJ hP zk_306 dX8_readHour_90 ?_
            obtain ⟨J10, hJ10, hf⟩ := ob_e hf
            refine zr_cVv (rest := []) (As := [.int (J9 306 17)]) X hP hS (ct_X8_emits (g := g) (nc := nc) (I := I) (J := J9) (O := O) hnJ l  hJ10) cw_X8_346 (zr_recv X hP (Nat.lt_of_lt_of_le (zk_306).2.1 hnJ) (zb_ceJo zk_306 (by decide)) rfl) rfl hl.1 (Nat.le_of_ble_eq_true rfl) ⟨Nat.le_of_ble_eq_true rfl, Nat.le_of_ble_eq_true rfl⟩ ⟨Nat.le_of_ble_eq_true rfl, Nat.le_of_ble_eq_true rfl⟩ dX8_readHour_93 rfl (fun H locs hP hS => ?_)
            refine lv_aload_n hx hb dX8_readHour_96 rfl (lv_at hl 2 rfl) ?_
            refine gf_X8_43 X hnJ hP zk_306 dX8_readHour_97 ?_
            refine lv_iload_n hx hb dX8_readHour_100 rfl (lv_at hl 1 rfl) ?_
            refine lv_dup2_11 hx hb dX8_readHour_101 rfl rfl ?_
            obtain ⟨x11, hx11, hf⟩ := ob_e hf
            refine zr_aldJ X hP hnJ zk_316 hx11 dX8_readHour_102 ?_
            refine lv_iconst (v := (1 : Int32)) hx hb dX8_readHour_103 (by decide) ?_
            refine lv_iadd hx hb dX8_readHour_104 ?_
            obtain ⟨J12, hJ12, hf⟩ := ob_e hf
            refine zr_astJ X hP hS hnJ zk_316 hJ12 dX8_readHour_105 (fun H locs hP hS => ?_)
            refine lv_goto (tgt := 12) hx hb dX8_readHour_106 (by decide) ?_
            exact ih hf KK K1 hP hS (lv_sub hl [0, 1, 2] rfl)
          · have hf := if_t hc hf
            refine lv_iconst (v := (0 : Int32)) hx hb dX8_readHour_86 (by decide) ?_
            cases hf
            exact K1 rfl H locs ls 87 dX8_readHour_87 hP hS
        · have hf := if_f hc hf
          refine lv_aload_n hx hb dX8_readHour_49 rfl (lv_at hl 2 rfl) ?_
          refine lv_iconst (v := (3 : Int32)) hx hb dX8_readHour_50 (by decide) ?_
          obtain ⟨x13, J14, hx13_J14, hf⟩ := ob2_e hf
          refine zr_cVi (rest := []) (As := [.int (3 : Int32)]) X hP hS (ct_X8_fails (g := g) (nc := nc) (I := I) (J := J4) (O := O) hnJ l  hx13_J14) cw_X8_114 (zr_recv X hP (Nat.lt_of_lt_of_le (zk_306).2.1 hnJ) (zb_ceJo zk_306 (by decide)) rfl) rfl hl.1 (Nat.le_of_ble_eq_true rfl) ⟨Nat.le_of_ble_eq_true rfl, Nat.le_of_ble_eq_true rfl⟩ ⟨Nat.le_of_ble_eq_true rfl, Nat.le_of_ble_eq_true rfl⟩ dX8_readHour_51 rfl (fun H locs hP hS => ?_)
          cases hf
          exact K1 rfl H locs ls 54 dX8_readHour_54 hP hS
      · have hf := if_t hc hf
        refine lv_iconst (v := (0 : Int32)) hx hb dX8_readHour_36 (by decide) ?_
        cases hf
        exact K1 rfl H locs ls 37 dX8_readHour_37 hP hS
set_option maxHeartbeats 4000000 in
set_option maxRecDepth 100000 in
theorem ct_X8_readHour {g : zb_G} {nc : Nat} (hnJ : 318 ≤ nc) (l : Launch) {I J O : Mem} {r9 : Int32} {Jq : Mem} (hf : fX8_readHour J = some (r9, Jq)) : zb_Ct l g nc yX8_readHour cX8_readHour 3 (some .boolean) 6 129 [.ref (g.2.2 + 306)] (zb_ce g I J O) (some (.int r9)) (zb_ce g I Jq O) := by
  refine zb_ofW (own := RX8) (by decide +kernel) rfl (Nat.le_of_ble_eq_true rfl) ?_
  intro p e s m args below meth c ls X hr hP hl
  have hx := X.1.1
  have hb := X.1.2.1
  have ho := X.1.2.2.2.1
  have hts := X.1.2.2.2.2
  have hZ := X.2.2.2
  have hl : lv_has ls 3 [(0, .ref (g.2.2 + 306))] := hl
  have hS : va_S (zb_A g) s.heap s.heap [] := va_S.rf
  obtain ⟨H, hH⟩ : ∃ H, H = s.heap := ⟨_, rfl⟩
  obtain ⟨locs, hlocs⟩ : ∃ z : List Loc, z = [] := ⟨_, rfl⟩
  rw [← hH] at hP
  have hS : va_S (zb_A g) s.heap H locs := by rw [hH, hlocs]; exact hS
  show W p l e _ s m args below meth c s.heap [] 0 0 _ _
  rw [← hH, ← hlocs]
  rw [fX8_readHour] at hf
  refine lv_aload_n hx hb dX8_readHour_0 rfl (lv_at hl 0 rfl) ?_
  refine gf_X8_343 X hnJ hP zk_306 dX8_readHour_1 ?_
  refine lv_istore_n (lv' := [(1, .int (J 306 23)), (0, .ref (g.2.2 + 306))]) hx hb dX8_readHour_4 rfl hl (by decide) rfl (fun ls hl => ?_)
  refine lv_iconst (v := (0 : Int32)) hx hb dX8_readHour_5 (by decide) ?_
  refine lv_istore_n (lv' := [(2, .int (0 : Int32)), (1, .int (J 306 23)), (0, .ref (g.2.2 + 306))]) hx hb dX8_readHour_6 rfl hl (by decide) rfl (fun ls hl => ?_)
  refine lv_aload_n hx hb dX8_readHour_7 rfl (lv_at hl 2 rfl) ?_
  refine lv_iconst (v := (0 : Int32)) hx hb dX8_readHour_8 (by decide) ?_
  obtain ⟨J1, hJ1, hf⟩ := ob_e hf
  refine zr_cVv (rest := []) (As := [.int (0 : Int32)]) X hP hS (ct_X8_emits (g := g) (nc := nc) (I := I) (J := J) (O := O) hnJ l  hJ1) cw_X8_346 (zr_recv X hP (Nat.lt_of_lt_of_le (zk_306).2.1 hnJ) (zb_ceJo zk_306 (by decide)) rfl) rfl hl.1 (Nat.le_of_ble_eq_true rfl) ⟨Nat.le_of_ble_eq_true rfl, Nat.le_of_ble_eq_true rfl⟩ ⟨Nat.le_of_ble_eq_true rfl, Nat.le_of_ble_eq_true rfl⟩ dX8_readHour_9 rfl (fun H locs hP hS => ?_)
  obtain ⟨t15, x16, J17, ht15_x16_J17, hf⟩ := ob3_e hf
  have K1 : t15 = 0 → ∀ (H : Heap) (locs : List Loc) (ls : Array Slot), va_P g.1 vwCl (zb_ws g nc (zb_ce g I J17 O)) H → va_S (zb_A g) s.heap H locs → lv_has ls 3 [] → W p l e { frames := 6, cells := 0, slots := 0, locals := 129 } s m args below meth c H locs 0 0 (MQ below (zb_Po g nc (zb_ce g I Jq O) (some (.int r9))) args s 0 0 (zb_A g)) (F0 m 109 ls []) := by
    intro he H locs ls hP hS hl
    have hf := if_f (by rw [he]; decide) hf
    refine lv_iconst (v := (1 : Int32)) hx hb dX8_readHour_109 (by decide) ?_
    obtain ⟨v9, hv9, hf⟩ := ob_e hf
    obtain ⟨hn9, he9⟩ := zbo_e hv9
    cases hf
    cases he9
    exact zr_zret X hr hn9 hP hS dX8_readHour_110
  have K2 : t15 = 1 → ∀ (H : Heap) (locs : List Loc) (ls : Array Slot) (pc : Nat), decode cX8_readHour pc = .ok (.ireturn, 1) → va_P g.1 vwCl (zb_ws g nc (zb_ce g I J17 O)) H → va_S (zb_A g) s.heap H locs → W p l e { frames := 6, cells := 0, slots := 0, locals := 129 } s m args below meth c H locs 0 0 (MQ below (zb_Po g nc (zb_ce g I Jq O) (some (.int r9))) args s 0 0 (zb_A g)) (F0 m pc ls [.int x16]) := by
    intro he H locs ls pc hd hP hS
    have hf := if_t he hf
    obtain ⟨v9, hv9, hf⟩ := ob_e hf
    obtain ⟨hn9, he9⟩ := zbo_e hv9
    cases hf
    cases he9
    exact zr_zret X hr hn9 hP hS hd
  exact lpX8_readHour_L12 hnJ l  X ht15_x16_J17 K1 K2 hP hS (lv_sub hl [0, 1, 2] rfl)
set_option maxHeartbeats 4000000 in
set_option maxRecDepth 100000 in
theorem ct_X8_readStorm {g : zb_G} {nc : Nat} (hnJ : 318 ≤ nc) (l : Launch) {I J O : Mem} {r9 : Int32} {Jq : Mem} (hf : fX8_readStorm J = some (r9, Jq)) : zb_Ct l g nc yX8_readStorm cX8_readStorm 2 (some .boolean) 7 149 [.ref (g.2.2 + 306)] (zb_ce g I J O) (some (.int r9)) (zb_ce g I Jq O) := by
  refine zb_ofW (own := RX8) (by decide +kernel) rfl (Nat.le_of_ble_eq_true rfl) ?_
  intro p e s m args below meth c ls X hr hP hl
  have hx := X.1.1
  have hb := X.1.2.1
  have ho := X.1.2.2.2.1
  have hts := X.1.2.2.2.2
  have hZ := X.2.2.2
  have hl : lv_has ls 2 [(0, .ref (g.2.2 + 306))] := hl
  have hS : va_S (zb_A g) s.heap s.heap [] := va_S.rf
  obtain ⟨H, hH⟩ : ∃ H, H = s.heap := ⟨_, rfl⟩
  obtain ⟨locs, hlocs⟩ : ∃ z : List Loc, z = [] := ⟨_, rfl⟩
  rw [← hH] at hP
  have hS : va_S (zb_A g) s.heap H locs := by rw [hH, hlocs]; exact hS
  show W p l e _ s m args below meth c s.heap [] 0 0 _ _
  rw [← hH, ← hlocs]
  rw [fX8_readStorm] at hf
  refine lv_aload_n hx hb dX8_readStorm_0 rfl (lv_at hl 0 rfl) ?_
  refine lv_iconst (v := (1 : Int32)) hx hb dX8_readStorm_1 (by decide) ?_
  refine lv_bipush (v := (99 : Int32)) hx hb dX8_readStorm_2 (by decide) ?_
  obtain ⟨x1, J2, hx1_J2, hf⟩ := ob2_e hf
  refine zr_cVi (rest := []) (As := [.int (1 : Int32), .int (99 : Int32)]) X hP hS (ct_X8_takesCode (g := g) (nc := nc) (I := I) (J := J) (O := O) hnJ l  hx1_J2) cw_X8_349 (zr_recv X hP (Nat.lt_of_lt_of_le (zk_306).2.1 hnJ) (zb_ceJo zk_306 (by decide)) rfl) rfl hl.1 (Nat.le_of_ble_eq_true rfl) ⟨Nat.le_of_ble_eq_true rfl, Nat.le_of_ble_eq_true rfl⟩ ⟨Nat.le_of_ble_eq_true rfl, Nat.le_of_ble_eq_true rfl⟩ dX8_readStorm_4 rfl (fun H locs hP hS => ?_)
  refine lv_if_eq (tgt := 17) hx hb dX8_readStorm_7 (by decide) (fun hc => ?_) (fun hc => ?_)
  · have hf := if_t hc hf
    refine lv_iconst (v := (0 : Int32)) hx hb dX8_readStorm_17 (by decide) ?_
    obtain ⟨v9, hv9, hf⟩ := ob_e hf
    obtain ⟨hn9, he9⟩ := zbo_e hv9
    cases hf
    cases he9
    exact zr_zret X hr hn9 hP hS dX8_readStorm_18
  · have hf := if_f hc hf
    refine lv_aload_n hx hb dX8_readStorm_10 rfl (lv_at hl 0 rfl) ?_
    obtain ⟨x3, J4, hx3_J4, hf⟩ := ob2_e hf
    refine zr_cVi (rest := []) (As := []) X hP hS (ct_X8_takesBuoy (g := g) (nc := nc) (I := I) (J := J2) (O := O) hnJ l  hx3_J4) cw_X8_352 (zr_recv X hP (Nat.lt_of_lt_of_le (zk_306).2.1 hnJ) (zb_ceJo zk_306 (by decide)) rfl) rfl hl.1 (Nat.le_of_ble_eq_true rfl) ⟨Nat.le_of_ble_eq_true rfl, Nat.le_of_ble_eq_true rfl⟩ ⟨Nat.le_of_ble_eq_true rfl, Nat.le_of_ble_eq_true rfl⟩ dX8_readStorm_11 rfl (fun H locs hP hS => ?_)
    refine lv_if_ne (tgt := 19) hx hb dX8_readStorm_14 (by decide) (fun hc => ?_) (fun hc => ?_)
    · have hf := if_f hc hf
      refine lv_aload_n hx hb dX8_readStorm_19 rfl (lv_at hl 0 rfl) ?_
      refine gf_X8_120 X hnJ hP zk_306 dX8_readStorm_20 ?_
      refine lv_istore_n (lv' := [(1, .int (J4 306 17)), (0, .ref (g.2.2 + 306))]) hx hb dX8_readStorm_23 rfl hl (by decide) rfl (fun ls hl => ?_)
      refine lv_aload_n hx hb dX8_readStorm_24 rfl (lv_at hl 1 rfl) ?_
      refine lv_iconst (v := (0 : Int32)) hx hb dX8_readStorm_25 (by decide) ?_
      refine lv_aload_n hx hb dX8_readStorm_26 rfl (lv_at hl 1 rfl) ?_
      refine gf_X8_7 X hnJ hP zk_306 dX8_readStorm_27 ?_
      refine lv_iconst (v := (0 : Int32)) hx hb dX8_readStorm_30 (by decide) ?_
      obtain ⟨x5, hx5, hf⟩ := ob_e hf
      refine zr_aldJ X hP hnJ zk_307 hx5 dX8_readStorm_31 ?_
      refine lv_iconst (v := (1 : Int32)) hx hb dX8_readStorm_32 (by decide) ?_
      refine lv_isub hx hb dX8_readStorm_33 ?_
      obtain ⟨x6, J7, hx6_J7, hf⟩ := ob2_e hf
      refine zr_cVi (rest := []) (As := [.int (0 : Int32), .int (x5 - (1 : Int32))]) X hP hS (ct_X8_stands (g := g) (nc := nc) (I := I) (J := J4) (O := O) hnJ l  hx6_J7) cw_X8_123 (zr_recv X hP (Nat.lt_of_lt_of_le (zk_306).2.1 hnJ) (zb_ceJo zk_306 (by decide)) rfl) rfl hl.1 (Nat.le_of_ble_eq_true rfl) ⟨Nat.le_of_ble_eq_true rfl, Nat.le_of_ble_eq_true rfl⟩ ⟨Nat.le_of_ble_eq_true rfl, Nat.le_of_ble_eq_true rfl⟩ dX8_readStorm_34 rfl (fun H locs hP hS => ?_)
      refine lv_if_ne (tgt := 42) hx hb dX8_readStorm_37 (by decide) (fun hc => ?_) (fun hc => ?_)
      · have hf := if_f hc hf
        refine lv_aload_n hx hb dX8_readStorm_42 rfl (lv_at hl 1 rfl) ?_
        refine gf_X8_120 X hnJ hP zk_306 dX8_readStorm_43 ?_
        refine lv_iload_n hx hb dX8_readStorm_46 rfl (lv_at hl 0 rfl) ?_
        refine lv_icmp_ge (tgt := 56) hx hb dX8_readStorm_47 (by decide) (fun hc => ?_) (fun hc => ?_)
        · have hf := if_t hc hf
          refine lv_aload_n hx hb dX8_readStorm_56 rfl (lv_at hl 1 rfl) ?_
          refine lv_aload_n hx hb dX8_readStorm_57 rfl (lv_at hl 1 rfl) ?_
          refine gf_X8_120 X hnJ hP zk_306 dX8_readStorm_58 ?_
          obtain ⟨J8, hJ8, hf⟩ := ob_e hf
          refine zr_cVv (rest := []) (As := [.int (J7 306 17)]) X hP hS (ct_X8_emits (g := g) (nc := nc) (I := I) (J := J7) (O := O) hnJ l  hJ8) cw_X8_346 (zr_recv X hP (Nat.lt_of_lt_of_le (zk_306).2.1 hnJ) (zb_ceJo zk_306 (by decide)) rfl) rfl hl.1 (Nat.le_of_ble_eq_true rfl) ⟨Nat.le_of_ble_eq_true rfl, Nat.le_of_ble_eq_true rfl⟩ ⟨Nat.le_of_ble_eq_true rfl, Nat.le_of_ble_eq_true rfl⟩ dX8_readStorm_61 rfl (fun H locs hP hS => ?_)
          refine lv_aload_n hx hb dX8_readStorm_64 rfl (lv_at hl 1 rfl) ?_
          obtain ⟨J9, hJ9, hf⟩ := ob_e hf
          refine zr_cVv (rest := []) (As := []) X hP hS (ct_X8_advance (g := g) (nc := nc) (I := I) (J := J8) (O := O) hnJ l  hJ9) cw_X8_117 (zr_recv X hP (Nat.lt_of_lt_of_le (zk_306).2.1 hnJ) (zb_ceJo zk_306 (by decide)) rfl) rfl hl.1 (Nat.le_of_ble_eq_true rfl) ⟨Nat.le_of_ble_eq_true rfl, Nat.le_of_ble_eq_true rfl⟩ ⟨Nat.le_of_ble_eq_true rfl, Nat.le_of_ble_eq_true rfl⟩ dX8_readStorm_65 rfl (fun H locs hP hS => ?_)
          refine lv_iconst (v := (1 : Int32)) hx hb dX8_readStorm_68 (by decide) ?_
          obtain ⟨v9, hv9, hf⟩ := ob_e hf
          obtain ⟨hn9, he9⟩ := zbo_e hv9
          cases hf
          cases he9
          exact zr_zret X hr hn9 hP hS dX8_readStorm_69
        · have hf := if_f hc hf
          refine lv_aload_n hx hb dX8_readStorm_50 rfl (lv_at hl 1 rfl) ?_
          refine lv_iconst (v := (3 : Int32)) hx hb dX8_readStorm_51 (by decide) ?_
          obtain ⟨x10, J11, hx10_J11, hf⟩ := ob2_e hf
          refine zr_cVi (rest := []) (As := [.int (3 : Int32)]) X hP hS (ct_X8_fails (g := g) (nc := nc) (I := I) (J := J7) (O := O) hnJ l  hx10_J11) cw_X8_114 (zr_recv X hP (Nat.lt_of_lt_of_le (zk_306).2.1 hnJ) (zb_ceJo zk_306 (by decide)) rfl) rfl hl.1 (Nat.le_of_ble_eq_true rfl) ⟨Nat.le_of_ble_eq_true rfl, Nat.le_of_ble_eq_true rfl⟩ ⟨Nat.le_of_ble_eq_true rfl, Nat.le_of_ble_eq_true rfl⟩ dX8_readStorm_52 rfl (fun H locs hP hS => ?_)
          obtain ⟨v9, hv9, hf⟩ := ob_e hf
          obtain ⟨hn9, he9⟩ := zbo_e hv9
          cases hf
          cases he9
          exact zr_zret X hr hn9 hP hS dX8_readStorm_55
      · have hf := if_t hc hf
        refine lv_iconst (v := (0 : Int32)) hx hb dX8_readStorm_40 (by decide) ?_
        obtain ⟨v9, hv9, hf⟩ := ob_e hf
        obtain ⟨hn9, he9⟩ := zbo_e hv9
        cases hf
        cases he9
        exact zr_zret X hr hn9 hP hS dX8_readStorm_41
    · have hf := if_t hc hf
      refine lv_iconst (v := (0 : Int32)) hx hb dX8_readStorm_17 (by decide) ?_
      obtain ⟨v9, hv9, hf⟩ := ob_e hf
      obtain ⟨hn9, he9⟩ := zbo_e hv9
      cases hf
      cases he9
      exact zr_zret X hr hn9 hP hS dX8_readStorm_18
set_option maxHeartbeats 4000000 in
set_option maxRecDepth 100000 in
theorem ct_X8_commandHere {g : zb_G} {nc : Nat} (hnJ : 318 ≤ nc) (l : Launch) {I J O : Mem} {r9 : Int32} (hf : fX8_commandHere J = some r9) : zb_Ct l g nc yX8_commandHere cX8_commandHere 1 (some .int) 6 148 [.ref (g.2.2 + 306)] (zb_ce g I J O) (some (.int r9)) (zb_ce g I J O) := by
  refine zb_ofW (own := RX8) (by decide +kernel) rfl (Nat.le_of_ble_eq_true rfl) ?_
  intro p e s m args below meth c ls X hr hP hl
  have hx := X.1.1
  have hb := X.1.2.1
  have ho := X.1.2.2.2.1
  have hts := X.1.2.2.2.2
  have hZ := X.2.2.2
  have hl : lv_has ls 1 [(0, .ref (g.2.2 + 306))] := hl
  have hS : va_S (zb_A g) s.heap s.heap [] := va_S.rf
  obtain ⟨H, hH⟩ : ∃ H, H = s.heap := ⟨_, rfl⟩
  obtain ⟨locs, hlocs⟩ : ∃ z : List Loc, z = [] := ⟨_, rfl⟩
  rw [← hH] at hP
  have hS : va_S (zb_A g) s.heap H locs := by rw [hH, hlocs]; exact hS
  show W p l e _ s m args below meth c s.heap [] 0 0 _ _
  rw [← hH, ← hlocs]
  rw [fX8_commandHere] at hf
  refine lv_aload_n hx hb dX8_commandHere_0 rfl (lv_at hl 0 rfl) ?_
  refine zr_strw X (hZ.2.2.2.1 4 (by decide)).2 dX8_commandHere_1 ?_
  obtain ⟨x1, hx1, hf⟩ := ob_e hf
  refine zr_cVi (rest := []) (As := [.ref (zb_aK g 4)]) X hP hS (ct_X8_isWord (g := g) (nc := nc) (I := I) (J := J) (O := O) hnJ l (by decide) hx1) cw_X8_142 (zr_recv X hP (Nat.lt_of_lt_of_le (zk_306).2.1 hnJ) (zb_ceJo zk_306 (by decide)) rfl) rfl hl.1 (Nat.le_of_ble_eq_true rfl) ⟨Nat.le_of_ble_eq_true rfl, Nat.le_of_ble_eq_true rfl⟩ ⟨Nat.le_of_ble_eq_true rfl, Nat.le_of_ble_eq_true rfl⟩ dX8_commandHere_4 rfl (fun H locs hP hS => ?_)
  obtain ⟨x7, ht, hf⟩ := ob_e hf
  have K1 : ∀ (H : Heap) (locs : List Loc) (ls : Array Slot), va_P g.1 vwCl (zb_ws g nc (zb_ce g I J O)) H → va_S (zb_A g) s.heap H locs → lv_has ls 1 [] → W p l e { frames := 6, cells := 0, slots := 0, locals := 148 } s m args below meth c H locs 0 0 (MQ below (zb_Po g nc (zb_ce g I J O) (some (.int r9))) args s 0 0 (zb_A g)) (F0 m 84 ls [.int x7]) := by
    intro H locs ls hP hS hl
    cases hf
    exact zr_iret X hr hP hS dX8_commandHere_84
  have hf := ht
  refine lv_if_eq (tgt := 14) hx hb dX8_commandHere_7 (by decide) (fun hc => ?_) (fun hc => ?_)
  · have hf := if_t hc hf
    refine lv_aload_n hx hb dX8_commandHere_14 rfl (lv_at hl 0 rfl) ?_
    refine zr_strw X (hZ.2.2.2.1 5 (by decide)).2 dX8_commandHere_15 ?_
    obtain ⟨x2, hx2, hf⟩ := ob_e hf
    refine zr_cVi (rest := []) (As := [.ref (zb_aK g 5)]) X hP hS (ct_X8_isWord (g := g) (nc := nc) (I := I) (J := J) (O := O) hnJ l (by decide) hx2) cw_X8_142 (zr_recv X hP (Nat.lt_of_lt_of_le (zk_306).2.1 hnJ) (zb_ceJo zk_306 (by decide)) rfl) rfl hl.1 (Nat.le_of_ble_eq_true rfl) ⟨Nat.le_of_ble_eq_true rfl, Nat.le_of_ble_eq_true rfl⟩ ⟨Nat.le_of_ble_eq_true rfl, Nat.le_of_ble_eq_true rfl⟩ dX8_commandHere_18 rfl (fun H locs hP hS => ?_)
    refine lv_if_eq (tgt := 28) hx hb dX8_commandHere_21 (by decide) (fun hc => ?_) (fun hc => ?_)
    · have hf := if_t hc hf
      refine lv_aload_n hx hb dX8_commandHere_28 rfl (lv_at hl 0 rfl) ?_
      refine zr_strw X (hZ.2.2.2.1 6 (by decide)).2 dX8_commandHere_29 ?_
      obtain ⟨x3, hx3, hf⟩ := ob_e hf
      refine zr_cVi (rest := []) (As := [.ref (zb_aK g 6)]) X hP hS (ct_X8_isWord (g := g) (nc := nc) (I := I) (J := J) (O := O) hnJ l (by decide) hx3) cw_X8_142 (zr_recv X hP (Nat.lt_of_lt_of_le (zk_306).2.1 hnJ) (zb_ceJo zk_306 (by decide)) rfl) rfl hl.1 (Nat.le_of_ble_eq_true rfl) ⟨Nat.le_of_ble_eq_true rfl, Nat.le_of_ble_eq_true rfl⟩ ⟨Nat.le_of_ble_eq_true rfl, Nat.le_of_ble_eq_true rfl⟩ dX8_commandHere_32 rfl (fun H locs hP hS => ?_)
      refine lv_if_eq (tgt := 42) hx hb dX8_commandHere_35 (by decide) (fun hc => ?_) (fun hc => ?_)
      · have hf := if_t hc hf
        refine lv_aload_n hx hb dX8_commandHere_42 rfl (lv_at hl 0 rfl) ?_
        refine zr_strw X (hZ.2.2.2.1 7 (by decide)).2 dX8_commandHere_43 ?_
        obtain ⟨x4, hx4, hf⟩ := ob_e hf
        refine zr_cVi (rest := []) (As := [.ref (zb_aK g 7)]) X hP hS (ct_X8_isWord (g := g) (nc := nc) (I := I) (J := J) (O := O) hnJ l (by decide) hx4) cw_X8_142 (zr_recv X hP (Nat.lt_of_lt_of_le (zk_306).2.1 hnJ) (zb_ceJo zk_306 (by decide)) rfl) rfl hl.1 (Nat.le_of_ble_eq_true rfl) ⟨Nat.le_of_ble_eq_true rfl, Nat.le_of_ble_eq_true rfl⟩ ⟨Nat.le_of_ble_eq_true rfl, Nat.le_of_ble_eq_true rfl⟩ dX8_commandHere_46 rfl (fun H locs hP hS => ?_)
        refine lv_if_eq (tgt := 56) hx hb dX8_commandHere_49 (by decide) (fun hc => ?_) (fun hc => ?_)
        · have hf := if_t hc hf
          refine lv_aload_n hx hb dX8_commandHere_56 rfl (lv_at hl 0 rfl) ?_
          refine zr_strw X (hZ.2.2.2.1 8 (by decide)).2 dX8_commandHere_57 ?_
          obtain ⟨x5, hx5, hf⟩ := ob_e hf
          refine zr_cVi (rest := []) (As := [.ref (zb_aK g 8)]) X hP hS (ct_X8_isWord (g := g) (nc := nc) (I := I) (J := J) (O := O) hnJ l (by decide) hx5) cw_X8_142 (zr_recv X hP (Nat.lt_of_lt_of_le (zk_306).2.1 hnJ) (zb_ceJo zk_306 (by decide)) rfl) rfl hl.1 (Nat.le_of_ble_eq_true rfl) ⟨Nat.le_of_ble_eq_true rfl, Nat.le_of_ble_eq_true rfl⟩ ⟨Nat.le_of_ble_eq_true rfl, Nat.le_of_ble_eq_true rfl⟩ dX8_commandHere_60 rfl (fun H locs hP hS => ?_)
          refine lv_if_eq (tgt := 70) hx hb dX8_commandHere_63 (by decide) (fun hc => ?_) (fun hc => ?_)
          · have hf := if_t hc hf
            refine lv_aload_n hx hb dX8_commandHere_70 rfl (lv_at hl 0 rfl) ?_
            refine zr_str X (hZ.2.2.2.1 3 (by decide)).2 dX8_commandHere_71 ?_
            obtain ⟨x6, hx6, hf⟩ := ob_e hf
            refine zr_cVi (rest := []) (As := [.ref (zb_aK g 3)]) X hP hS (ct_X8_isWord (g := g) (nc := nc) (I := I) (J := J) (O := O) hnJ l (by decide) hx6) cw_X8_142 (zr_recv X hP (Nat.lt_of_lt_of_le (zk_306).2.1 hnJ) (zb_ceJo zk_306 (by decide)) rfl) rfl hl.1 (Nat.le_of_ble_eq_true rfl) ⟨Nat.le_of_ble_eq_true rfl, Nat.le_of_ble_eq_true rfl⟩ ⟨Nat.le_of_ble_eq_true rfl, Nat.le_of_ble_eq_true rfl⟩ dX8_commandHere_73 rfl (fun H locs hP hS => ?_)
            refine lv_if_eq (tgt := 83) hx hb dX8_commandHere_76 (by decide) (fun hc => ?_) (fun hc => ?_)
            · have hf := if_t hc hf
              refine lv_iconst (v := (-1 : Int32)) hx hb dX8_commandHere_83 (by decide) ?_
              cases hf
              exact K1 H locs ls hP hS (lv_sub hl [] rfl)
            · have hf := if_f hc hf
              refine lv_iconst (v := (5 : Int32)) hx hb dX8_commandHere_79 (by decide) ?_
              refine lv_goto (tgt := 84) hx hb dX8_commandHere_80 (by decide) ?_
              cases hf
              exact K1 H locs ls hP hS (lv_sub hl [] rfl)
          · have hf := if_f hc hf
            refine lv_iconst (v := (4 : Int32)) hx hb dX8_commandHere_66 (by decide) ?_
            refine lv_goto (tgt := 84) hx hb dX8_commandHere_67 (by decide) ?_
            cases hf
            exact K1 H locs ls hP hS (lv_sub hl [] rfl)
        · have hf := if_f hc hf
          refine lv_iconst (v := (3 : Int32)) hx hb dX8_commandHere_52 (by decide) ?_
          refine lv_goto (tgt := 84) hx hb dX8_commandHere_53 (by decide) ?_
          cases hf
          exact K1 H locs ls hP hS (lv_sub hl [] rfl)
      · have hf := if_f hc hf
        refine lv_iconst (v := (2 : Int32)) hx hb dX8_commandHere_38 (by decide) ?_
        refine lv_goto (tgt := 84) hx hb dX8_commandHere_39 (by decide) ?_
        cases hf
        exact K1 H locs ls hP hS (lv_sub hl [] rfl)
    · have hf := if_f hc hf
      refine lv_iconst (v := (1 : Int32)) hx hb dX8_commandHere_24 (by decide) ?_
      refine lv_goto (tgt := 84) hx hb dX8_commandHere_25 (by decide) ?_
      cases hf
      exact K1 H locs ls hP hS (lv_sub hl [] rfl)
  · have hf := if_f hc hf
    refine lv_iconst (v := (0 : Int32)) hx hb dX8_commandHere_10 (by decide) ?_
    refine lv_goto (tgt := 84) hx hb dX8_commandHere_11 (by decide) ?_
    cases hf
    exact K1 H locs ls hP hS (lv_sub hl [] rfl)
set_option maxHeartbeats 4000000 in
set_option maxRecDepth 100000 in
theorem ct_X8_readCommand {g : zb_G} {nc : Nat} (hnJ : 318 ≤ nc) (l : Launch) {I J O : Mem} {r9 : Int32} {Jq : Mem} (hf : fX8_readCommand J = some (r9, Jq)) : zb_Ct l g nc yX8_readCommand cX8_readCommand 2 (some .boolean) 8 170 [.ref (g.2.2 + 306)] (zb_ce g I J O) (some (.int r9)) (zb_ce g I Jq O) := by
  refine zb_ofW (own := RX8) (by decide +kernel) rfl (Nat.le_of_ble_eq_true rfl) ?_
  intro p e s m args below meth c ls X hr hP hl
  have hx := X.1.1
  have hb := X.1.2.1
  have ho := X.1.2.2.2.1
  have hts := X.1.2.2.2.2
  have hZ := X.2.2.2
  have hl : lv_has ls 2 [(0, .ref (g.2.2 + 306))] := hl
  have hS : va_S (zb_A g) s.heap s.heap [] := va_S.rf
  obtain ⟨H, hH⟩ : ∃ H, H = s.heap := ⟨_, rfl⟩
  obtain ⟨locs, hlocs⟩ : ∃ z : List Loc, z = [] := ⟨_, rfl⟩
  rw [← hH] at hP
  have hS : va_S (zb_A g) s.heap H locs := by rw [hH, hlocs]; exact hS
  show W p l e _ s m args below meth c s.heap [] 0 0 _ _
  rw [← hH, ← hlocs]
  rw [fX8_readCommand] at hf
  refine lv_aload_n hx hb dX8_readCommand_0 rfl (lv_at hl 0 rfl) ?_
  obtain ⟨x1, hx1, hf⟩ := ob_e hf
  refine zr_cVi (rest := []) (As := []) X hP hS (ct_X8_commandHere (g := g) (nc := nc) (I := I) (J := J) (O := O) hnJ l  hx1) cw_X8_365 (zr_recv X hP (Nat.lt_of_lt_of_le (zk_306).2.1 hnJ) (zb_ceJo zk_306 (by decide)) rfl) rfl hl.1 (Nat.le_of_ble_eq_true rfl) ⟨Nat.le_of_ble_eq_true rfl, Nat.le_of_ble_eq_true rfl⟩ ⟨Nat.le_of_ble_eq_true rfl, Nat.le_of_ble_eq_true rfl⟩ dX8_readCommand_1 rfl (fun H locs hP hS => ?_)
  refine lv_istore_n (lv' := [(1, .int x1), (0, .ref (g.2.2 + 306))]) hx hb dX8_readCommand_4 rfl hl (by decide) rfl (fun ls hl => ?_)
  refine lv_iload_n hx hb dX8_readCommand_5 rfl (lv_at hl 0 rfl) ?_
  refine lv_iconst (v := (-1 : Int32)) hx hb dX8_readCommand_6 (by decide) ?_
  refine lv_icmp_ne (tgt := 16) hx hb dX8_readCommand_7 (by decide) (fun hc => ?_) (fun hc => ?_)
  · have hf := if_f hc hf
    refine lv_aload_n hx hb dX8_readCommand_16 rfl (lv_at hl 1 rfl) ?_
    refine lv_iconst (v := (4 : Int32)) hx hb dX8_readCommand_17 (by decide) ?_
    refine lv_aload_n hx hb dX8_readCommand_18 rfl (lv_at hl 1 rfl) ?_
    refine gf_X8_368 X hnJ hP zk_306 dX8_readCommand_19 ?_
    refine lv_bipush (v := (40 : Int32)) hx hb dX8_readCommand_22 (by decide) ?_
    obtain ⟨x2, ht, hf⟩ := pl_e hf
    have K1 : ∀ (H : Heap) (locs : List Loc) (ls : Array Slot), va_P g.1 vwCl (zb_ws g nc (zb_ce g I J O)) H → va_S (zb_A g) s.heap H locs → lv_has ls 2 [(1, .int x1), (0, .ref (g.2.2 + 306))] → W p l e { frames := 8, cells := 0, slots := 0, locals := 170 } s m args below meth c H locs 0 0 (MQ below (zb_Po g nc (zb_ce g I Jq O) (some (.int r9))) args s 0 0 (zb_A g)) (F0 m 32 ls [.int x2, .int (4 : Int32), .ref (g.2.2 + 306)]) := by
      intro H locs ls hP hS hl
      obtain ⟨x3, J4, hx3_J4, hf⟩ := ob2_e hf
      refine zr_cVi (rest := []) (As := [.int (4 : Int32), .int x2]) X hP hS (ct_X8_starts (g := g) (nc := nc) (I := I) (J := J) (O := O) hnJ l  hx3_J4) cw_X8_127 (zr_recv X hP (Nat.lt_of_lt_of_le (zk_306).2.1 hnJ) (zb_ceJo zk_306 (by decide)) rfl) rfl hl.1 (Nat.le_of_ble_eq_true rfl) ⟨Nat.le_of_ble_eq_true rfl, Nat.le_of_ble_eq_true rfl⟩ ⟨Nat.le_of_ble_eq_true rfl, Nat.le_of_ble_eq_true rfl⟩ dX8_readCommand_32 rfl (fun H locs hP hS => ?_)
      refine lv_if_ne (tgt := 40) hx hb dX8_readCommand_35 (by decide) (fun hc => ?_) (fun hc => ?_)
      · have hf := if_f hc hf
        refine lv_aload_n hx hb dX8_readCommand_40 rfl (lv_at hl 1 rfl) ?_
        refine lv_dup hx hb dX8_readCommand_41 rfl ?_
        refine gf_X8_368 X hnJ hP zk_306 dX8_readCommand_42 ?_
        refine lv_iconst (v := (1 : Int32)) hx hb dX8_readCommand_45 (by decide) ?_
        refine lv_iadd hx hb dX8_readCommand_46 ?_
        refine pf_X8_368 X hnJ hP hS zk_306 dX8_readCommand_47 (fun H locs hP hS => ?_)
        refine lv_aload_n hx hb dX8_readCommand_50 rfl (lv_at hl 1 rfl) ?_
        refine lv_iload_n hx hb dX8_readCommand_51 rfl (lv_at hl 0 rfl) ?_
        obtain ⟨J5, hJ5, hf⟩ := ob_e hf
        refine zr_cVv (rest := []) (As := [.int x1]) X hP hS (ct_X8_emits (g := g) (nc := nc) (I := I) (J := (wr J4 306 24 ((J4 306 24) + (1 : Int32)))) (O := O) hnJ l  hJ5) cw_X8_346 (zr_recv X hP (Nat.lt_of_lt_of_le (zk_306).2.1 hnJ) (zb_ceJo zk_306 (by decide)) rfl) rfl hl.1 (Nat.le_of_ble_eq_true rfl) ⟨Nat.le_of_ble_eq_true rfl, Nat.le_of_ble_eq_true rfl⟩ ⟨Nat.le_of_ble_eq_true rfl, Nat.le_of_ble_eq_true rfl⟩ dX8_readCommand_52 rfl (fun H locs hP hS => ?_)
        refine lv_iload_n hx hb dX8_readCommand_55 rfl (lv_at hl 0 rfl) ?_
        rcases Classical.em (x1 = (0 : Int32)) with q0 | q0
        · have hf := if_t q0 hf
          refine lv_tableIn (off := 36) (tgt := 92) hx hb dX8_readCommand_56 (by rw [q0]; decide) (by rw [q0]; decide) (by rw [q0]; rfl) (by decide) ?_
          refine lv_aload_n hx hb dX8_readCommand_92 rfl (lv_at hl 1 rfl) ?_
          obtain ⟨x6, J7, hx6_J7, hf⟩ := ob2_e hf
          refine zr_cVi (rest := []) (As := []) X hP hS (ct_X8_readHour (g := g) (nc := nc) (I := I) (J := J5) (O := O) hnJ l  hx6_J7) cw_X8_371 (zr_recv X hP (Nat.lt_of_lt_of_le (zk_306).2.1 hnJ) (zb_ceJo zk_306 (by decide)) rfl) rfl hl.1 (Nat.le_of_ble_eq_true rfl) ⟨Nat.le_of_ble_eq_true rfl, Nat.le_of_ble_eq_true rfl⟩ ⟨Nat.le_of_ble_eq_true rfl, Nat.le_of_ble_eq_true rfl⟩ dX8_readCommand_93 rfl (fun H locs hP hS => ?_)
          obtain ⟨v9, hv9, hf⟩ := ob_e hf
          obtain ⟨hn9, he9⟩ := zbo_e hv9
          cases hf
          cases he9
          exact zr_zret X hr hn9 hP hS dX8_readCommand_96
        have hf := if_f q0 hf
        rcases Classical.em (x1 = (1 : Int32)) with q1 | q1
        · have hf := if_t q1 hf
          refine lv_tableIn (off := 41) (tgt := 97) hx hb dX8_readCommand_56 (by rw [q1]; decide) (by rw [q1]; decide) (by rw [q1]; rfl) (by decide) ?_
          refine lv_aload_n hx hb dX8_readCommand_97 rfl (lv_at hl 1 rfl) ?_
          obtain ⟨x8, J9, hx8_J9, hf⟩ := ob2_e hf
          refine zr_cVi (rest := []) (As := []) X hP hS (ct_X8_readStorm (g := g) (nc := nc) (I := I) (J := J5) (O := O) hnJ l  hx8_J9) cw_X8_374 (zr_recv X hP (Nat.lt_of_lt_of_le (zk_306).2.1 hnJ) (zb_ceJo zk_306 (by decide)) rfl) rfl hl.1 (Nat.le_of_ble_eq_true rfl) ⟨Nat.le_of_ble_eq_true rfl, Nat.le_of_ble_eq_true rfl⟩ ⟨Nat.le_of_ble_eq_true rfl, Nat.le_of_ble_eq_true rfl⟩ dX8_readCommand_98 rfl (fun H locs hP hS => ?_)
          obtain ⟨v9, hv9, hf⟩ := ob_e hf
          obtain ⟨hn9, he9⟩ := zbo_e hv9
          cases hf
          cases he9
          exact zr_zret X hr hn9 hP hS dX8_readCommand_101
        have hf := if_f q1 hf
        rcases Classical.em (x1 = (2 : Int32)) with q2 | q2
        · have hf := if_t q2 hf
          refine lv_tableIn (off := 46) (tgt := 102) hx hb dX8_readCommand_56 (by rw [q2]; decide) (by rw [q2]; decide) (by rw [q2]; rfl) (by decide) ?_
          refine lv_aload_n hx hb dX8_readCommand_102 rfl (lv_at hl 1 rfl) ?_
          refine lv_iconst (v := (0 : Int32)) hx hb dX8_readCommand_103 (by decide) ?_
          refine lv_aload_n hx hb dX8_readCommand_104 rfl (lv_at hl 1 rfl) ?_
          refine gf_X8_7 X hnJ hP zk_306 dX8_readCommand_105 ?_
          refine lv_iconst (v := (0 : Int32)) hx hb dX8_readCommand_108 (by decide) ?_
          obtain ⟨x10, hx10, hf⟩ := ob_e hf
          refine zr_aldJ X hP hnJ zk_307 hx10 dX8_readCommand_109 ?_
          refine lv_iconst (v := (2 : Int32)) hx hb dX8_readCommand_110 (by decide) ?_
          refine lv_isub hx hb dX8_readCommand_111 ?_
          obtain ⟨x11, J12, hx11_J12, hf⟩ := ob2_e hf
          refine zr_cVi (rest := []) (As := [.int (0 : Int32), .int (x10 - (2 : Int32))]) X hP hS (ct_X8_takesCode (g := g) (nc := nc) (I := I) (J := J5) (O := O) hnJ l  hx11_J12) cw_X8_349 (zr_recv X hP (Nat.lt_of_lt_of_le (zk_306).2.1 hnJ) (zb_ceJo zk_306 (by decide)) rfl) rfl hl.1 (Nat.le_of_ble_eq_true rfl) ⟨Nat.le_of_ble_eq_true rfl, Nat.le_of_ble_eq_true rfl⟩ ⟨Nat.le_of_ble_eq_true rfl, Nat.le_of_ble_eq_true rfl⟩ dX8_readCommand_112 rfl (fun H locs hP hS => ?_)
          obtain ⟨v9, hv9, hf⟩ := ob_e hf
          obtain ⟨hn9, he9⟩ := zbo_e hv9
          cases hf
          cases he9
          exact zr_zret X hr hn9 hP hS dX8_readCommand_115
        have hf := if_f q2 hf
        rcases Classical.em (x1 = (3 : Int32)) with q3 | q3
        · have hf := if_t q3 hf
          refine lv_tableIn (off := 60) (tgt := 116) hx hb dX8_readCommand_56 (by rw [q3]; decide) (by rw [q3]; decide) (by rw [q3]; rfl) (by decide) ?_
          refine lv_aload_n hx hb dX8_readCommand_116 rfl (lv_at hl 1 rfl) ?_
          refine lv_iconst (v := (1 : Int32)) hx hb dX8_readCommand_117 (by decide) ?_
          refine lv_bipush (v := (99 : Int32)) hx hb dX8_readCommand_118 (by decide) ?_
          obtain ⟨x13, J14, hx13_J14, hf⟩ := ob2_e hf
          refine zr_cVi (rest := []) (As := [.int (1 : Int32), .int (99 : Int32)]) X hP hS (ct_X8_takesCode (g := g) (nc := nc) (I := I) (J := J5) (O := O) hnJ l  hx13_J14) cw_X8_349 (zr_recv X hP (Nat.lt_of_lt_of_le (zk_306).2.1 hnJ) (zb_ceJo zk_306 (by decide)) rfl) rfl hl.1 (Nat.le_of_ble_eq_true rfl) ⟨Nat.le_of_ble_eq_true rfl, Nat.le_of_ble_eq_true rfl⟩ ⟨Nat.le_of_ble_eq_true rfl, Nat.le_of_ble_eq_true rfl⟩ dX8_readCommand_120 rfl (fun H locs hP hS => ?_)
          obtain ⟨v9, hv9, hf⟩ := ob_e hf
          obtain ⟨hn9, he9⟩ := zbo_e hv9
          cases hf
          cases he9
          exact zr_zret X hr hn9 hP hS dX8_readCommand_123
        have hf := if_f q3 hf
        rcases Classical.em (x1 = (4 : Int32)) with q4 | q4
        · have hf := if_t q4 hf
          refine lv_tableIn (off := 68) (tgt := 124) hx hb dX8_readCommand_56 (by rw [q4]; decide) (by rw [q4]; decide) (by rw [q4]; rfl) (by decide) ?_
          refine lv_aload_n hx hb dX8_readCommand_124 rfl (lv_at hl 1 rfl) ?_
          obtain ⟨x15, J16, hx15_J16, hf⟩ := ob2_e hf
          refine zr_cVi (rest := []) (As := []) X hP hS (ct_X8_takesBuoy (g := g) (nc := nc) (I := I) (J := J5) (O := O) hnJ l  hx15_J16) cw_X8_352 (zr_recv X hP (Nat.lt_of_lt_of_le (zk_306).2.1 hnJ) (zb_ceJo zk_306 (by decide)) rfl) rfl hl.1 (Nat.le_of_ble_eq_true rfl) ⟨Nat.le_of_ble_eq_true rfl, Nat.le_of_ble_eq_true rfl⟩ ⟨Nat.le_of_ble_eq_true rfl, Nat.le_of_ble_eq_true rfl⟩ dX8_readCommand_125 rfl (fun H locs hP hS => ?_)
          obtain ⟨v9, hv9, hf⟩ := ob_e hf
          obtain ⟨hn9, he9⟩ := zbo_e hv9
          cases hf
          cases he9
          exact zr_zret X hr hn9 hP hS dX8_readCommand_128
        have hf := if_f q4 hf
        refine lv_tableOut (tgt := 129) hx hb dX8_readCommand_56 (by have z0 := zr_ne (k := 0) (by decide) q0; have z1 := zr_ne (k := 1) (by decide) q1; have z2 := zr_ne (k := 2) (by decide) q2; have z3 := zr_ne (k := 3) (by decide) q3; have z4 := zr_ne (k := 4) (by decide) q4; omega) (by decide) ?_
        refine lv_aload_n hx hb dX8_readCommand_129 rfl (lv_at hl 1 rfl) ?_
        refine lv_iconst (v := (1 : Int32)) hx hb dX8_readCommand_130 (by decide) ?_
        refine lv_sipush (v := (9999 : Int32)) hx hb dX8_readCommand_131 (by decide) ?_
        obtain ⟨x17, J18, hx17_J18, hf⟩ := ob2_e hf
        refine zr_cVi (rest := []) (As := [.int (1 : Int32), .int (9999 : Int32)]) X hP hS (ct_X8_takesCode (g := g) (nc := nc) (I := I) (J := J5) (O := O) hnJ l  hx17_J18) cw_X8_349 (zr_recv X hP (Nat.lt_of_lt_of_le (zk_306).2.1 hnJ) (zb_ceJo zk_306 (by decide)) rfl) rfl hl.1 (Nat.le_of_ble_eq_true rfl) ⟨Nat.le_of_ble_eq_true rfl, Nat.le_of_ble_eq_true rfl⟩ ⟨Nat.le_of_ble_eq_true rfl, Nat.le_of_ble_eq_true rfl⟩ dX8_readCommand_134 rfl (fun H locs hP hS => ?_)
        obtain ⟨v9, hv9, hf⟩ := ob_e hf
        obtain ⟨hn9, he9⟩ := zbo_e hv9
        cases hf
        cases he9
        exact zr_zret X hr hn9 hP hS dX8_readCommand_137
      · have hf := if_t hc hf
        refine lv_iconst (v := (0 : Int32)) hx hb dX8_readCommand_38 (by decide) ?_
        obtain ⟨v9, hv9, hf⟩ := ob_e hf
        obtain ⟨hn9, he9⟩ := zbo_e hv9
        cases hf
        cases he9
        exact zr_zret X hr hn9 hP hS dX8_readCommand_39
    have hf := ht
    refine lv_icmp_ge (tgt := 31) hx hb dX8_readCommand_24 (by decide) (fun hc => ?_) (fun hc => ?_)
    · have hf := if_t hc hf
      refine lv_iconst (v := (0 : Int32)) hx hb dX8_readCommand_31 (by decide) ?_
      cases hf
      exact K1 H locs ls hP hS (lv_sub hl [0, 1] rfl)
    · have hf := if_f hc hf
      refine lv_iconst (v := (1 : Int32)) hx hb dX8_readCommand_27 (by decide) ?_
      refine lv_goto (tgt := 32) hx hb dX8_readCommand_28 (by decide) ?_
      cases hf
      exact K1 H locs ls hP hS (lv_sub hl [0, 1] rfl)
  · have hf := if_t hc hf
    refine lv_aload_n hx hb dX8_readCommand_10 rfl (lv_at hl 1 rfl) ?_
    refine lv_iconst (v := (1 : Int32)) hx hb dX8_readCommand_11 (by decide) ?_
    obtain ⟨x19, J20, hx19_J20, hf⟩ := ob2_e hf
    refine zr_cVi (rest := []) (As := [.int (1 : Int32)]) X hP hS (ct_X8_fails (g := g) (nc := nc) (I := I) (J := J) (O := O) hnJ l  hx19_J20) cw_X8_114 (zr_recv X hP (Nat.lt_of_lt_of_le (zk_306).2.1 hnJ) (zb_ceJo zk_306 (by decide)) rfl) rfl hl.1 (Nat.le_of_ble_eq_true rfl) ⟨Nat.le_of_ble_eq_true rfl, Nat.le_of_ble_eq_true rfl⟩ ⟨Nat.le_of_ble_eq_true rfl, Nat.le_of_ble_eq_true rfl⟩ dX8_readCommand_12 rfl (fun H locs hP hS => ?_)
    obtain ⟨v9, hv9, hf⟩ := ob_e hf
    obtain ⟨hn9, he9⟩ := zbo_e hv9
    cases hf
    cases he9
    exact zr_zret X hr hn9 hP hS dX8_readCommand_15
set_option maxHeartbeats 4000000 in
set_option maxRecDepth 100000 in
theorem lpX8_doesHour_L2 {g : zb_G} {nc : Nat} (hnJ : 318 ≤ nc) (l : Launch) {a1 : Int32} {I O : Mem} {p : Program} {e : Env} {s : State} {m : MethodId} {args : Array Value} {below : List Frame} {meth : Method} {c : Code} {Q : State → Prop} (X : zb_X g p m c cX8_doesHour 4 s args RX8 meth) : ∀ {n9 : Nat} {a2 : Int32} {J : Mem} {Jz : Mem} {H : Heap} {locs : List Loc} {ls : Array Slot}, fX8_doesHour_L2 a1 n9 a2 J = some Jz → (∀ (H : Heap) (locs : List Loc) (ls : Array Slot), va_P g.1 vwCl (zb_ws g nc (zb_ce g I Jz O)) H → va_S (zb_A g) s.heap H locs → lv_has ls 4 [(0, .ref (g.2.2 + 306))] → W p l e { frames := 6, cells := 0, slots := 0, locals := 140 } s m args below meth c H locs 0 0 Q (F0 m 47 ls [])) → va_P g.1 vwCl (zb_ws g nc (zb_ce g I J O)) H → va_S (zb_A g) s.heap H locs → lv_has ls 4 [(2, .int a2), (0, .ref (g.2.2 + 306)), (1, .int a1)] → W p l e { frames := 6, cells := 0, slots := 0, locals := 140 } s m args below meth c H locs 0 0 Q (F0 m 2 ls []) := by
  have hx := X.1.1
  have hb := X.1.2.1
  have ho := X.1.2.2.2.1
  have hts := X.1.2.2.2.2
  have hZ := X.2.2.2
  intro n9
  induction n9 with
  | zero =>
    intro a2 J Jz H locs ls hf
    exact nomatch hf
  | succ n9 ih =>
    intro a2 J Jz H locs ls hf KK hP hS hl
    rw [fX8_doesHour_L2] at hf
    refine lv_iload_n hx hb dX8_doesHour_2 rfl (lv_at hl 0 rfl) ?_
    refine lv_aload_n hx hb dX8_doesHour_3 rfl (lv_at hl 1 rfl) ?_
    refine gf_X8_43 X hnJ hP zk_306 dX8_doesHour_4 ?_
    refine lv_iload_n hx hb dX8_doesHour_7 rfl (lv_at hl 2 rfl) ?_
    obtain ⟨x1, hx1, hf⟩ := ob_e hf
    refine zr_aldJ X hP hnJ zk_316 hx1 dX8_doesHour_8 ?_
    refine lv_icmp_ge (tgt := 47) hx hb dX8_doesHour_9 (by decide) (fun hc => ?_) (fun hc => ?_)
    · have hf := if_t hc hf
      cases hf
      exact KK H locs ls hP hS (lv_sub hl [1] rfl)
    · have hf := if_f hc hf
      refine lv_aload_n hx hb dX8_doesHour_12 rfl (lv_at hl 1 rfl) ?_
      refine lv_aload_n hx hb dX8_doesHour_13 rfl (lv_at hl 1 rfl) ?_
      refine gf_X8_43 X hnJ hP zk_306 dX8_doesHour_14 ?_
      refine lv_iload_n hx hb dX8_doesHour_17 rfl (lv_at hl 2 rfl) ?_
      refine lv_iconst (v := (1 : Int32)) hx hb dX8_doesHour_18 (by decide) ?_
      refine lv_iadd hx hb dX8_doesHour_19 ?_
      refine lv_iconst (v := (2 : Int32)) hx hb dX8_doesHour_20 (by decide) ?_
      refine lv_iload_n hx hb dX8_doesHour_21 rfl (lv_at hl 0 rfl) ?_
      refine lv_imul hx hb dX8_doesHour_22 ?_
      refine lv_iadd hx hb dX8_doesHour_23 ?_
      obtain ⟨x2, hx2, hf⟩ := ob_e hf
      refine zr_aldJ X hP hnJ zk_316 hx2 dX8_doesHour_24 ?_
      refine lv_aload_n hx hb dX8_doesHour_25 rfl (lv_at hl 1 rfl) ?_
      refine gf_X8_43 X hnJ hP zk_306 dX8_doesHour_26 ?_
      refine lv_iload_n hx hb dX8_doesHour_29 rfl (lv_at hl 2 rfl) ?_
      refine lv_iconst (v := (2 : Int32)) hx hb dX8_doesHour_30 (by decide) ?_
      refine lv_iadd hx hb dX8_doesHour_31 ?_
      refine lv_iconst (v := (2 : Int32)) hx hb dX8_doesHour_32 (by decide) ?_
      refine lv_iload_n hx hb dX8_doesHour_33 rfl (lv_at hl 0 rfl) ?_
      refine lv_imul hx hb dX8_doesHour_34 ?_
      refine lv_iadd hx hb dX8_doesHour_35 ?_
      obtain ⟨x3, hx3, hf⟩ := ob_e hf
      refine zr_aldJ X hP hnJ zk_316 hx3 dX8_doesHour_36 ?_
      obtain ⟨x4, J5, hx4_J5, hf⟩ := ob2_e hf
      refine zr_cVi (rest := []) (As := [.int x2, .int x3]) X hP hS (ct_X8_reports (g := g) (nc := nc) (I := I) (J := J) (O := O) hnJ l  hx4_J5) cw_X8_307 (zr_recv X hP (Nat.lt_of_lt_of_le (zk_306).2.1 hnJ) (zb_ceJo zk_306 (by decide)) rfl) rfl hl.1 (Nat.le_of_ble_eq_true rfl) ⟨Nat.le_of_ble_eq_true rfl, Nat.le_of_ble_eq_true rfl⟩ ⟨Nat.le_of_ble_eq_true rfl, Nat.le_of_ble_eq_true rfl⟩ dX8_doesHour_37 rfl (fun H locs hP hS => ?_)
      refine lv_istore_n (lv' := [(3, .int x4), (2, .int a2), (0, .ref (g.2.2 + 306)), (1, .int a1)]) hx hb dX8_doesHour_40 rfl hl (by decide) rfl (fun ls hl => ?_)
      refine lv_iinc (v := (a2 + (1 : Int32))) (lv' := [(2, .int (a2 + (1 : Int32))), (3, .int x4), (0, .ref (g.2.2 + 306)), (1, .int a1)]) hx hb dX8_doesHour_41 hl (k := 1) rfl rfl (by decide) rfl (fun ls hl => ?_)
      refine lv_goto (tgt := 2) hx hb dX8_doesHour_44 (by decide) ?_
      exact ih hf KK hP hS (lv_sub hl [0, 2, 3] rfl)
set_option maxHeartbeats 4000000 in
set_option maxRecDepth 100000 in
theorem ct_X8_doesHour {g : zb_G} {nc : Nat} (hnJ : 318 ≤ nc) (l : Launch) {a1 : Int32} {I J O : Mem} {r9 : Int32} {Jq : Mem} (hf : fX8_doesHour a1 J = some (r9, Jq)) : zb_Ct l g nc yX8_doesHour cX8_doesHour 4 (some .int) 6 140 [.ref (g.2.2 + 306), .int a1] (zb_ce g I J O) (some (.int r9)) (zb_ce g I Jq O) := by
  refine zb_ofW (own := RX8) (by decide +kernel) rfl (Nat.le_of_ble_eq_true rfl) ?_
  intro p e s m args below meth c ls X hr hP hl
  have hx := X.1.1
  have hb := X.1.2.1
  have ho := X.1.2.2.2.1
  have hts := X.1.2.2.2.2
  have hZ := X.2.2.2
  have hl : lv_has ls 4 [(0, .ref (g.2.2 + 306)), (1, .int a1)] := hl
  have hS : va_S (zb_A g) s.heap s.heap [] := va_S.rf
  obtain ⟨H, hH⟩ : ∃ H, H = s.heap := ⟨_, rfl⟩
  obtain ⟨locs, hlocs⟩ : ∃ z : List Loc, z = [] := ⟨_, rfl⟩
  rw [← hH] at hP
  have hS : va_S (zb_A g) s.heap H locs := by rw [hH, hlocs]; exact hS
  show W p l e _ s m args below meth c s.heap [] 0 0 _ _
  rw [← hH, ← hlocs]
  rw [fX8_doesHour] at hf
  refine lv_iconst (v := (0 : Int32)) hx hb dX8_doesHour_0 (by decide) ?_
  refine lv_istore_n (lv' := [(2, .int (0 : Int32)), (0, .ref (g.2.2 + 306)), (1, .int a1)]) hx hb dX8_doesHour_1 rfl hl (by decide) rfl (fun ls hl => ?_)
  obtain ⟨J6, hJ6, hf⟩ := ob_e hf
  have K1 : ∀ (H : Heap) (locs : List Loc) (ls : Array Slot), va_P g.1 vwCl (zb_ws g nc (zb_ce g I J6 O)) H → va_S (zb_A g) s.heap H locs → lv_has ls 4 [(0, .ref (g.2.2 + 306))] → W p l e { frames := 6, cells := 0, slots := 0, locals := 140 } s m args below meth c H locs 0 0 (MQ below (zb_Po g nc (zb_ce g I Jq O) (some (.int r9))) args s 0 0 (zb_A g)) (F0 m 47 ls []) := by
    intro H locs ls hP hS hl
    refine lv_aload_n hx hb dX8_doesHour_47 rfl (lv_at hl 0 rfl) ?_
    obtain ⟨x7, J8, hx7_J8, hf⟩ := ob2_e hf
    refine zr_cVi (rest := []) (As := []) X hP hS (ct_X8_endsHour (g := g) (nc := nc) (I := I) (J := J6) (O := O) hnJ l  hx7_J8) cw_X8_313 (zr_recv X hP (Nat.lt_of_lt_of_le (zk_306).2.1 hnJ) (zb_ceJo zk_306 (by decide)) rfl) rfl hl.1 (Nat.le_of_ble_eq_true rfl) ⟨Nat.le_of_ble_eq_true rfl, Nat.le_of_ble_eq_true rfl⟩ ⟨Nat.le_of_ble_eq_true rfl, Nat.le_of_ble_eq_true rfl⟩ dX8_doesHour_48 rfl (fun H locs hP hS => ?_)
    cases hf
    exact zr_iret X hr hP hS dX8_doesHour_51
  exact lpX8_doesHour_L2 hnJ l  X hJ6 K1 hP hS (lv_sub hl [0, 1, 2] rfl)
set_option maxHeartbeats 4000000 in
set_option maxRecDepth 100000 in
theorem ct_X8_does {g : zb_G} {nc : Nat} (hnJ : 318 ≤ nc) (l : Launch) {a1 : Int32} {I J O : Mem} {r9 : Int32} {Jq : Mem} (hf : fX8_does a1 J = some (r9, Jq)) : zb_Ct l g nc yX8_does cX8_does 3 (some .int) 7 163 [.ref (g.2.2 + 306), .int a1] (zb_ce g I J O) (some (.int r9)) (zb_ce g I Jq O) := by
  refine zb_ofW (own := RX8) (by decide +kernel) rfl (Nat.le_of_ble_eq_true rfl) ?_
  intro p e s m args below meth c ls X hr hP hl
  have hx := X.1.1
  have hb := X.1.2.1
  have ho := X.1.2.2.2.1
  have hts := X.1.2.2.2.2
  have hZ := X.2.2.2
  have hl : lv_has ls 3 [(0, .ref (g.2.2 + 306)), (1, .int a1)] := hl
  have hS : va_S (zb_A g) s.heap s.heap [] := va_S.rf
  obtain ⟨H, hH⟩ : ∃ H, H = s.heap := ⟨_, rfl⟩
  obtain ⟨locs, hlocs⟩ : ∃ z : List Loc, z = [] := ⟨_, rfl⟩
  rw [← hH] at hP
  have hS : va_S (zb_A g) s.heap H locs := by rw [hH, hlocs]; exact hS
  show W p l e _ s m args below meth c s.heap [] 0 0 _ _
  rw [← hH, ← hlocs]
  rw [fX8_does] at hf
  refine lv_aload_n hx hb dX8_does_0 rfl (lv_at hl 0 rfl) ?_
  refine gf_X8_43 X hnJ hP zk_306 dX8_does_1 ?_
  refine lv_iload_n hx hb dX8_does_4 rfl (lv_at hl 1 rfl) ?_
  refine lv_iconst (v := (1 : Int32)) hx hb dX8_does_5 (by decide) ?_
  refine lv_iadd hx hb dX8_does_6 ?_
  obtain ⟨x1, hx1, hf⟩ := ob_e hf
  refine zr_aldJ X hP hnJ zk_316 hx1 dX8_does_7 ?_
  refine lv_istore_n (lv' := [(2, .int x1), (0, .ref (g.2.2 + 306)), (1, .int a1)]) hx hb dX8_does_8 rfl hl (by decide) rfl (fun ls hl => ?_)
  refine lv_aload_n hx hb dX8_does_9 rfl (lv_at hl 1 rfl) ?_
  refine gf_X8_43 X hnJ hP zk_306 dX8_does_10 ?_
  refine lv_iload_n hx hb dX8_does_13 rfl (lv_at hl 2 rfl) ?_
  obtain ⟨x2, hx2, hf⟩ := ob_e hf
  refine zr_aldJ X hP hnJ zk_316 hx2 dX8_does_14 ?_
  rcases Classical.em (x2 = (0 : Int32)) with q0 | q0
  · have hf := if_t q0 hf
    refine lv_tableIn (off := 33) (tgt := 48) hx hb dX8_does_15 (by rw [q0]; decide) (by rw [q0]; decide) (by rw [q0]; rfl) (by decide) ?_
    refine lv_aload_n hx hb dX8_does_48 rfl (lv_at hl 1 rfl) ?_
    refine lv_iload_n hx hb dX8_does_49 rfl (lv_at hl 2 rfl) ?_
    refine lv_iconst (v := (1 : Int32)) hx hb dX8_does_50 (by decide) ?_
    refine lv_iadd hx hb dX8_does_51 ?_
    obtain ⟨x3, J4, hx3_J4, hf⟩ := ob2_e hf
    refine zr_cVi (rest := []) (As := [.int (a1 + (1 : Int32))]) X hP hS (ct_X8_doesHour (g := g) (nc := nc) (I := I) (J := J) (O := O) hnJ l  hx3_J4) cw_X8_377 (zr_recv X hP (Nat.lt_of_lt_of_le (zk_306).2.1 hnJ) (zb_ceJo zk_306 (by decide)) rfl) rfl hl.1 (Nat.le_of_ble_eq_true rfl) ⟨Nat.le_of_ble_eq_true rfl, Nat.le_of_ble_eq_true rfl⟩ ⟨Nat.le_of_ble_eq_true rfl, Nat.le_of_ble_eq_true rfl⟩ dX8_does_52 rfl (fun H locs hP hS => ?_)
    cases hf
    exact zr_iret X hr hP hS dX8_does_55
  have hf := if_f q0 hf
  rcases Classical.em (x2 = (1 : Int32)) with q1 | q1
  · have hf := if_t q1 hf
    refine lv_tableIn (off := 41) (tgt := 56) hx hb dX8_does_15 (by rw [q1]; decide) (by rw [q1]; decide) (by rw [q1]; rfl) (by decide) ?_
    refine lv_aload_n hx hb dX8_does_56 rfl (lv_at hl 1 rfl) ?_
    refine lv_iload_n hx hb dX8_does_57 rfl (lv_at hl 0 rfl) ?_
    refine lv_aload_n hx hb dX8_does_58 rfl (lv_at hl 1 rfl) ?_
    refine gf_X8_43 X hnJ hP zk_306 dX8_does_59 ?_
    refine lv_iload_n hx hb dX8_does_62 rfl (lv_at hl 2 rfl) ?_
    refine lv_iconst (v := (2 : Int32)) hx hb dX8_does_63 (by decide) ?_
    refine lv_iadd hx hb dX8_does_64 ?_
    obtain ⟨x5, hx5, hf⟩ := ob_e hf
    refine zr_aldJ X hP hnJ zk_316 hx5 dX8_does_65 ?_
    refine lv_aload_n hx hb dX8_does_66 rfl (lv_at hl 1 rfl) ?_
    refine gf_X8_43 X hnJ hP zk_306 dX8_does_67 ?_
    refine lv_iload_n hx hb dX8_does_70 rfl (lv_at hl 2 rfl) ?_
    refine lv_iconst (v := (3 : Int32)) hx hb dX8_does_71 (by decide) ?_
    refine lv_iadd hx hb dX8_does_72 ?_
    obtain ⟨x6, hx6, hf⟩ := ob_e hf
    refine zr_aldJ X hP hnJ zk_316 hx6 dX8_does_73 ?_
    obtain ⟨x7, J8, hx7_J8, hf⟩ := ob2_e hf
    refine zr_cVi (rest := []) (As := [.int x1, .int x5, .int x6]) X hP hS (ct_X8_storms (g := g) (nc := nc) (I := I) (J := J) (O := O) hnJ l  hx7_J8) cw_X8_319 (zr_recv X hP (Nat.lt_of_lt_of_le (zk_306).2.1 hnJ) (zb_ceJo zk_306 (by decide)) rfl) rfl hl.1 (Nat.le_of_ble_eq_true rfl) ⟨Nat.le_of_ble_eq_true rfl, Nat.le_of_ble_eq_true rfl⟩ ⟨Nat.le_of_ble_eq_true rfl, Nat.le_of_ble_eq_true rfl⟩ dX8_does_74 rfl (fun H locs hP hS => ?_)
    cases hf
    exact zr_iret X hr hP hS dX8_does_77
  have hf := if_f q1 hf
  rcases Classical.em (x2 = (2 : Int32)) with q2 | q2
  · have hf := if_t q2 hf
    refine lv_tableIn (off := 63) (tgt := 78) hx hb dX8_does_15 (by rw [q2]; decide) (by rw [q2]; decide) (by rw [q2]; rfl) (by decide) ?_
    refine lv_aload_n hx hb dX8_does_78 rfl (lv_at hl 1 rfl) ?_
    refine lv_iload_n hx hb dX8_does_79 rfl (lv_at hl 0 rfl) ?_
    obtain ⟨x9, J10, hx9_J10, hf⟩ := ob2_e hf
    refine zr_cVi (rest := []) (As := [.int x1]) X hP hS (ct_X8_remakes (g := g) (nc := nc) (I := I) (J := J) (O := O) hnJ l  hx9_J10) cw_X8_328 (zr_recv X hP (Nat.lt_of_lt_of_le (zk_306).2.1 hnJ) (zb_ceJo zk_306 (by decide)) rfl) rfl hl.1 (Nat.le_of_ble_eq_true rfl) ⟨Nat.le_of_ble_eq_true rfl, Nat.le_of_ble_eq_true rfl⟩ ⟨Nat.le_of_ble_eq_true rfl, Nat.le_of_ble_eq_true rfl⟩ dX8_does_80 rfl (fun H locs hP hS => ?_)
    cases hf
    exact zr_iret X hr hP hS dX8_does_83
  have hf := if_f q2 hf
  rcases Classical.em (x2 = (3 : Int32)) with q3 | q3
  · have hf := if_t q3 hf
    refine lv_tableIn (off := 69) (tgt := 84) hx hb dX8_does_15 (by rw [q3]; decide) (by rw [q3]; decide) (by rw [q3]; rfl) (by decide) ?_
    refine lv_aload_n hx hb dX8_does_84 rfl (lv_at hl 1 rfl) ?_
    refine lv_iload_n hx hb dX8_does_85 rfl (lv_at hl 0 rfl) ?_
    obtain ⟨x11, J12, hx11_J12, hf⟩ := ob2_e hf
    refine zr_cVi (rest := []) (As := [.int x1]) X hP hS (ct_X8_remakesBy (g := g) (nc := nc) (I := I) (J := J) (O := O) hnJ l  hx11_J12) cw_X8_331 (zr_recv X hP (Nat.lt_of_lt_of_le (zk_306).2.1 hnJ) (zb_ceJo zk_306 (by decide)) rfl) rfl hl.1 (Nat.le_of_ble_eq_true rfl) ⟨Nat.le_of_ble_eq_true rfl, Nat.le_of_ble_eq_true rfl⟩ ⟨Nat.le_of_ble_eq_true rfl, Nat.le_of_ble_eq_true rfl⟩ dX8_does_86 rfl (fun H locs hP hS => ?_)
    cases hf
    exact zr_iret X hr hP hS dX8_does_89
  have hf := if_f q3 hf
  rcases Classical.em (x2 = (4 : Int32)) with q4 | q4
  · have hf := if_t q4 hf
    refine lv_tableIn (off := 75) (tgt := 90) hx hb dX8_does_15 (by rw [q4]; decide) (by rw [q4]; decide) (by rw [q4]; rfl) (by decide) ?_
    refine lv_aload_n hx hb dX8_does_90 rfl (lv_at hl 1 rfl) ?_
    refine lv_iload_n hx hb dX8_does_91 rfl (lv_at hl 0 rfl) ?_
    obtain ⟨x13, J14, hx13_J14, hf⟩ := ob2_e hf
    refine zr_cVi (rest := []) (As := [.int x1]) X hP hS (ct_X8_hauls (g := g) (nc := nc) (I := I) (J := J) (O := O) hnJ l  hx13_J14) cw_X8_334 (zr_recv X hP (Nat.lt_of_lt_of_le (zk_306).2.1 hnJ) (zb_ceJo zk_306 (by decide)) rfl) rfl hl.1 (Nat.le_of_ble_eq_true rfl) ⟨Nat.le_of_ble_eq_true rfl, Nat.le_of_ble_eq_true rfl⟩ ⟨Nat.le_of_ble_eq_true rfl, Nat.le_of_ble_eq_true rfl⟩ dX8_does_92 rfl (fun H locs hP hS => ?_)
    cases hf
    exact zr_iret X hr hP hS dX8_does_95
  have hf := if_f q4 hf
  refine lv_tableOut (tgt := 96) hx hb dX8_does_15 (by have z0 := zr_ne (k := 0) (by decide) q0; have z1 := zr_ne (k := 1) (by decide) q1; have z2 := zr_ne (k := 2) (by decide) q2; have z3 := zr_ne (k := 3) (by decide) q3; have z4 := zr_ne (k := 4) (by decide) q4; omega) (by decide) ?_
  refine lv_aload_n hx hb dX8_does_96 rfl (lv_at hl 1 rfl) ?_
  refine lv_iload_n hx hb dX8_does_97 rfl (lv_at hl 0 rfl) ?_
  obtain ⟨x15, J16, hx15_J16, hf⟩ := ob2_e hf
  refine zr_cVi (rest := []) (As := [.int x1]) X hP hS (ct_X8_stocks (g := g) (nc := nc) (I := I) (J := J) (O := O) hnJ l  hx15_J16) cw_X8_337 (zr_recv X hP (Nat.lt_of_lt_of_le (zk_306).2.1 hnJ) (zb_ceJo zk_306 (by decide)) rfl) rfl hl.1 (Nat.le_of_ble_eq_true rfl) ⟨Nat.le_of_ble_eq_true rfl, Nat.le_of_ble_eq_true rfl⟩ ⟨Nat.le_of_ble_eq_true rfl, Nat.le_of_ble_eq_true rfl⟩ dX8_does_98 rfl (fun H locs hP hS => ?_)
  cases hf
  exact zr_iret X hr hP hS dX8_does_101
set_option maxHeartbeats 4000000 in
set_option maxRecDepth 100000 in
theorem ct_X8_codesOf {g : zb_G} {nc : Nat} (hnJ : 318 ≤ nc) (l : Launch) {a1 : Int32} {I J O : Mem} {r9 : Int32} (hf : fX8_codesOf a1 J = some r9) : zb_Ct l g nc yX8_codesOf cX8_codesOf 2 (some .int) 0 0 [.ref (g.2.2 + 306), .int a1] (zb_ce g I J O) (some (.int r9)) (zb_ce g I J O) := by
  refine zb_ofW (own := RX8) (by decide +kernel) rfl (Nat.le_of_ble_eq_true rfl) ?_
  intro p e s m args below meth c ls X hr hP hl
  have hx := X.1.1
  have hb := X.1.2.1
  have ho := X.1.2.2.2.1
  have hts := X.1.2.2.2.2
  have hZ := X.2.2.2
  have hl : lv_has ls 2 [(0, .ref (g.2.2 + 306)), (1, .int a1)] := hl
  have hS : va_S (zb_A g) s.heap s.heap [] := va_S.rf
  obtain ⟨H, hH⟩ : ∃ H, H = s.heap := ⟨_, rfl⟩
  obtain ⟨locs, hlocs⟩ : ∃ z : List Loc, z = [] := ⟨_, rfl⟩
  rw [← hH] at hP
  have hS : va_S (zb_A g) s.heap H locs := by rw [hH, hlocs]; exact hS
  show W p l e _ s m args below meth c s.heap [] 0 0 _ _
  rw [← hH, ← hlocs]
  rw [fX8_codesOf] at hf
  refine lv_aload_n hx hb dX8_codesOf_0 rfl (lv_at hl 0 rfl) ?_
  refine gf_X8_43 X hnJ hP zk_306 dX8_codesOf_1 ?_
  refine lv_iload_n hx hb dX8_codesOf_4 rfl (lv_at hl 1 rfl) ?_
  obtain ⟨x1, hx1, hf⟩ := ob_e hf
  refine zr_aldJ X hP hnJ zk_316 hx1 dX8_codesOf_5 ?_
  obtain ⟨x4, ht, hf⟩ := ob_e hf
  have K1 : ∀ (H : Heap) (locs : List Loc) (ls : Array Slot), va_P g.1 vwCl (zb_ws g nc (zb_ce g I J O)) H → va_S (zb_A g) s.heap H locs → lv_has ls 2 [] → W p l e { frames := 0, cells := 0, slots := 0, locals := 0 } s m args below meth c H locs 0 0 (MQ below (zb_Po g nc (zb_ce g I J O) (some (.int r9))) args s 0 0 (zb_A g)) (F0 m 39 ls [.int x4]) := by
    intro H locs ls hP hS hl
    cases hf
    exact zr_iret X hr hP hS dX8_codesOf_39
  have hf := ht
  refine lv_if_ne (tgt := 24) hx hb dX8_codesOf_6 (by decide) (fun hc => ?_) (fun hc => ?_)
  · have hf := if_f hc hf
    refine lv_aload_n hx hb dX8_codesOf_24 rfl (lv_at hl 0 rfl) ?_
    refine gf_X8_43 X hnJ hP zk_306 dX8_codesOf_25 ?_
    refine lv_iload_n hx hb dX8_codesOf_28 rfl (lv_at hl 1 rfl) ?_
    obtain ⟨x2, hx2, hf⟩ := ob_e hf
    refine zr_aldJ X hP hnJ zk_316 hx2 dX8_codesOf_29 ?_
    refine lv_iconst (v := (1 : Int32)) hx hb dX8_codesOf_30 (by decide) ?_
    refine lv_icmp_ne (tgt := 38) hx hb dX8_codesOf_31 (by decide) (fun hc => ?_) (fun hc => ?_)
    · have hf := if_f hc hf
      refine lv_iconst (v := (2 : Int32)) hx hb dX8_codesOf_38 (by decide) ?_
      cases hf
      exact K1 H locs ls hP hS (lv_sub hl [] rfl)
    · have hf := if_t hc hf
      refine lv_iconst (v := (4 : Int32)) hx hb dX8_codesOf_34 (by decide) ?_
      refine lv_goto (tgt := 39) hx hb dX8_codesOf_35 (by decide) ?_
      cases hf
      exact K1 H locs ls hP hS (lv_sub hl [] rfl)
  · have hf := if_t hc hf
    refine lv_iconst (v := (2 : Int32)) hx hb dX8_codesOf_9 (by decide) ?_
    refine lv_iconst (v := (2 : Int32)) hx hb dX8_codesOf_10 (by decide) ?_
    refine lv_aload_n hx hb dX8_codesOf_11 rfl (lv_at hl 0 rfl) ?_
    refine gf_X8_43 X hnJ hP zk_306 dX8_codesOf_12 ?_
    refine lv_iload_n hx hb dX8_codesOf_15 rfl (lv_at hl 1 rfl) ?_
    refine lv_iconst (v := (1 : Int32)) hx hb dX8_codesOf_16 (by decide) ?_
    refine lv_iadd hx hb dX8_codesOf_17 ?_
    obtain ⟨x3, hx3, hf⟩ := ob_e hf
    refine zr_aldJ X hP hnJ zk_316 hx3 dX8_codesOf_18 ?_
    refine lv_imul hx hb dX8_codesOf_19 ?_
    refine lv_iadd hx hb dX8_codesOf_20 ?_
    refine lv_goto (tgt := 39) hx hb dX8_codesOf_21 (by decide) ?_
    cases hf
    exact K1 H locs ls hP hS (lv_sub hl [] rfl)
