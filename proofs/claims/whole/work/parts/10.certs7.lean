set_option maxHeartbeats 4000000 in
set_option maxRecDepth 100000 in
theorem lpX8_play_L21 {g : zb_G} {nc : Nat} (hnJ : 318 ≤ nc) (l : Launch) {I O : Mem} {p : Program} {e : Env} {s : State} {m : MethodId} {args : Array Value} {below : List Frame} {meth : Method} {c : Code} {Q : State → Prop} (X : zb_X g p m c cX8_play 4 s args RX8 meth) : ∀ {n9 : Nat} {a1 : Int32} {J : Mem} {z1 : Int32} {Jz : Mem} {H : Heap} {locs : List Loc} {ls : Array Slot}, fX8_play_L21 n9 a1 J = some (z1, Jz) → (∀ (H : Heap) (locs : List Loc) (ls : Array Slot), va_P g.1 vwCl (zb_ws g nc (zb_ce g I Jz O)) H → va_S (zb_A g) s.heap H locs → lv_has ls 4 [(1, .int z1), (0, .ref (g.2.2 + 306))] → W p l e { frames := 9, cells := 0, slots := 0, locals := 191 } s m args below meth c H locs 0 0 Q (F0 m 55 ls [])) → va_P g.1 vwCl (zb_ws g nc (zb_ce g I J O)) H → va_S (zb_A g) s.heap H locs → lv_has ls 4 [(1, .int a1), (0, .ref (g.2.2 + 306))] → W p l e { frames := 9, cells := 0, slots := 0, locals := 191 } s m args below meth c H locs 0 0 Q (F0 m 21 ls []) := by
  have hx := X.1.1
  have hb := X.1.2.1
  have ho := X.1.2.2.2.1
  have hts := X.1.2.2.2.2
  have hZ := X.2.2.2
  intro n9
  induction n9 with
  | zero =>
    intro a1 J z1 Jz H locs ls hf
    exact nomatch hf
  | succ n9 ih =>
    intro a1 J z1 Jz H locs ls hf KK hP hS hl
    rw [fX8_play_L21] at hf
    refine lv_iload_n hx hb dX8_play_21 rfl (lv_at hl 0 rfl) ?_
    refine lv_if_eq (tgt := 55) hx hb dX8_play_22 (by decide) (fun hc => ?_) (fun hc => ?_)
    · have hf := if_t hc hf
      cases hf
      exact KK H locs ls hP hS (lv_sub hl [0, 1] rfl)
    · have hf := if_f hc hf
      refine lv_aload_n hx hb dX8_play_25 rfl (lv_at hl 1 rfl) ?_
      refine gf_X8_91 X hnJ hP zk_306 dX8_play_26 ?_
      refine lv_if_eq (tgt := 55) hx hb dX8_play_29 (by decide) (fun hc => ?_) (fun hc => ?_)
      · have hf := if_t hc hf
        cases hf
        exact KK H locs ls hP hS (lv_sub hl [0, 1] rfl)
      · have hf := if_f hc hf
        refine lv_aload_n hx hb dX8_play_32 rfl (lv_at hl 1 rfl) ?_
        obtain ⟨x2, J3, hx2_J3, hf⟩ := ob2_e hf
        refine zr_cVi (rest := []) (As := []) X hP hS (ct_X8_readCommand (g := g) (nc := nc) (I := I) (J := J) (O := O) hnJ l  hx2_J3) cw_X8_380 (zr_recv X hP (Nat.lt_of_lt_of_le (zk_306).2.1 hnJ) (zb_ceJo zk_306 (by decide)) rfl) rfl hl.1 (Nat.le_of_ble_eq_true rfl) ⟨Nat.le_of_ble_eq_true rfl, Nat.le_of_ble_eq_true rfl⟩ ⟨Nat.le_of_ble_eq_true rfl, Nat.le_of_ble_eq_true rfl⟩ dX8_play_33 rfl (fun H locs hP hS => ?_)
        obtain ⟨x6, J7, ht, hf⟩ := ob2_e hf
        have K1 : ∀ (H : Heap) (locs : List Loc) (ls : Array Slot), va_P g.1 vwCl (zb_ws g nc (zb_ce g I J7 O)) H → va_S (zb_A g) s.heap H locs → lv_has ls 4 [(0, .ref (g.2.2 + 306))] → W p l e { frames := 9, cells := 0, slots := 0, locals := 191 } s m args below meth c H locs 0 0 Q (F0 m 51 ls [.int x6]) := by
          intro H locs ls hP hS hl
          refine lv_istore_n (lv' := [(1, .int x6), (0, .ref (g.2.2 + 306))]) hx hb dX8_play_51 rfl hl (by decide) rfl (fun ls hl => ?_)
          refine lv_goto (tgt := 21) hx hb dX8_play_52 (by decide) ?_
          exact ih hf KK hP hS (lv_sub hl [0, 1] rfl)
        have hf := ht
        refine lv_if_eq (tgt := 50) hx hb dX8_play_36 (by decide) (fun hc => ?_) (fun hc => ?_)
        · have hf := if_t hc hf
          refine lv_iconst (v := (0 : Int32)) hx hb dX8_play_50 (by decide) ?_
          cases hf
          exact K1 H locs ls hP hS (lv_sub hl [1] rfl)
        · have hf := if_f hc hf
          refine lv_aload_n hx hb dX8_play_39 rfl (lv_at hl 1 rfl) ?_
          obtain ⟨x4, J5, hx4_J5, hf⟩ := ob2_e hf
          refine zr_cVi (rest := []) (As := []) X hP hS (ct_X8_stop (g := g) (nc := nc) (I := I) (J := J3) (O := O) hnJ l  hx4_J5) cw_X8_163 (zr_recv X hP (Nat.lt_of_lt_of_le (zk_306).2.1 hnJ) (zb_ceJo zk_306 (by decide)) rfl) rfl hl.1 (Nat.le_of_ble_eq_true rfl) ⟨Nat.le_of_ble_eq_true rfl, Nat.le_of_ble_eq_true rfl⟩ ⟨Nat.le_of_ble_eq_true rfl, Nat.le_of_ble_eq_true rfl⟩ dX8_play_40 rfl (fun H locs hP hS => ?_)
          refine lv_if_eq (tgt := 50) hx hb dX8_play_43 (by decide) (fun hc => ?_) (fun hc => ?_)
          · have hf := if_t hc hf
            refine lv_iconst (v := (0 : Int32)) hx hb dX8_play_50 (by decide) ?_
            cases hf
            exact K1 H locs ls hP hS (lv_sub hl [1] rfl)
          · have hf := if_f hc hf
            refine lv_iconst (v := (1 : Int32)) hx hb dX8_play_46 (by decide) ?_
            refine lv_goto (tgt := 51) hx hb dX8_play_47 (by decide) ?_
            cases hf
            exact K1 H locs ls hP hS (lv_sub hl [1] rfl)
set_option maxHeartbeats 4000000 in
set_option maxRecDepth 100000 in
theorem lpX8_play_L70 {g : zb_G} {nc : Nat} (hnJ : 318 ≤ nc) (l : Launch) {I O : Mem} {p : Program} {e : Env} {s : State} {m : MethodId} {args : Array Value} {below : List Frame} {meth : Method} {c : Code} {Q : State → Prop} (X : zb_X g p m c cX8_play 4 s args RX8 meth) : ∀ {n9 : Nat} {a3 : Int32} {a2 : Int32} {J : Mem} {z2 : Int32} {Jz : Mem} {H : Heap} {locs : List Loc} {ls : Array Slot}, fX8_play_L70 n9 a3 a2 J = some (z2, Jz) → (∀ (H : Heap) (locs : List Loc) (ls : Array Slot), va_P g.1 vwCl (zb_ws g nc (zb_ce g I Jz O)) H → va_S (zb_A g) s.heap H locs → lv_has ls 4 [(2, .int z2)] → W p l e { frames := 9, cells := 0, slots := 0, locals := 191 } s m args below meth c H locs 0 0 Q (F0 m 100 ls [])) → va_P g.1 vwCl (zb_ws g nc (zb_ce g I J O)) H → va_S (zb_A g) s.heap H locs → lv_has ls 4 [(3, .int a3), (2, .int a2), (0, .ref (g.2.2 + 306))] → W p l e { frames := 9, cells := 0, slots := 0, locals := 191 } s m args below meth c H locs 0 0 Q (F0 m 70 ls []) := by
  have hx := X.1.1
  have hb := X.1.2.1
  have ho := X.1.2.2.2.1
  have hts := X.1.2.2.2.2
  have hZ := X.2.2.2
  intro n9
  induction n9 with
  | zero =>
    intro a3 a2 J z2 Jz H locs ls hf
    exact nomatch hf
  | succ n9 ih =>
    intro a3 a2 J z2 Jz H locs ls hf KK hP hS hl
    rw [fX8_play_L70] at hf
    refine lv_iload_n hx hb dX8_play_70 rfl (lv_at hl 1 rfl) ?_
    refine lv_aload_n hx hb dX8_play_71 rfl (lv_at hl 2 rfl) ?_
    refine gf_X8_368 X hnJ hP zk_306 dX8_play_72 ?_
    refine lv_icmp_ge (tgt := 100) hx hb dX8_play_75 (by decide) (fun hc => ?_) (fun hc => ?_)
    · have hf := if_t hc hf
      cases hf
      exact KK H locs ls hP hS (lv_sub hl [1] rfl)
    · have hf := if_f hc hf
      refine lv_aload_n hx hb dX8_play_78 rfl (lv_at hl 2 rfl) ?_
      refine lv_iload_n hx hb dX8_play_79 rfl (lv_at hl 0 rfl) ?_
      obtain ⟨x10, J11, hx10_J11, hf⟩ := ob2_e hf
      refine zr_cVi (rest := []) (As := [.int a3]) X hP hS (ct_X8_does (g := g) (nc := nc) (I := I) (J := J) (O := O) hnJ l  hx10_J11) cw_X8_383 (zr_recv X hP (Nat.lt_of_lt_of_le (zk_306).2.1 hnJ) (zb_ceJo zk_306 (by decide)) rfl) rfl hl.1 (Nat.le_of_ble_eq_true rfl) ⟨Nat.le_of_ble_eq_true rfl, Nat.le_of_ble_eq_true rfl⟩ ⟨Nat.le_of_ble_eq_true rfl, Nat.le_of_ble_eq_true rfl⟩ dX8_play_80 rfl (fun H locs hP hS => ?_)
      refine lv_if_lt (tgt := 100) hx hb dX8_play_83 (by decide) (fun hc => ?_) (fun hc => ?_)
      · have hf := if_t hc hf
        cases hf
        exact KK H locs ls hP hS (lv_sub hl [1] rfl)
      · have hf := if_f hc hf
        refine lv_iload_n hx hb dX8_play_86 rfl (lv_at hl 0 rfl) ?_
        refine lv_aload_n hx hb dX8_play_87 rfl (lv_at hl 2 rfl) ?_
        refine lv_iload_n hx hb dX8_play_88 rfl (lv_at hl 0 rfl) ?_
        obtain ⟨x12, hx12, hf⟩ := ob_e hf
        refine zr_cVi (rest := [.int a3]) (As := [.int a3]) X hP hS (ct_X8_codesOf (g := g) (nc := nc) (I := I) (J := J11) (O := O) hnJ l  hx12) cw_X8_386 (zr_recv X hP (Nat.lt_of_lt_of_le (zk_306).2.1 hnJ) (zb_ceJo zk_306 (by decide)) rfl) rfl hl.1 (Nat.le_of_ble_eq_true rfl) ⟨Nat.le_of_ble_eq_true rfl, Nat.le_of_ble_eq_true rfl⟩ ⟨Nat.le_of_ble_eq_true rfl, Nat.le_of_ble_eq_true rfl⟩ dX8_play_89 rfl (fun H locs hP hS => ?_)
        refine lv_iadd hx hb dX8_play_92 ?_
        refine lv_istore_n (lv' := [(3, .int (a3 + x12)), (2, .int a2), (0, .ref (g.2.2 + 306))]) hx hb dX8_play_93 rfl hl (by decide) rfl (fun ls hl => ?_)
        refine lv_iinc (v := (a2 + (1 : Int32))) (lv' := [(2, .int (a2 + (1 : Int32))), (3, .int (a3 + x12)), (0, .ref (g.2.2 + 306))]) hx hb dX8_play_94 hl (k := 1) rfl rfl (by decide) rfl (fun ls hl => ?_)
        refine lv_goto (tgt := 70) hx hb dX8_play_97 (by decide) ?_
        exact ih hf KK hP hS (lv_sub hl [1, 0, 2] rfl)
set_option maxHeartbeats 4000000 in
set_option maxRecDepth 100000 in
theorem ct_X8_play {g : zb_G} {nc : Nat} (hnJ : 318 ≤ nc) (l : Launch) {I J O : Mem} {r9 : Int32} {Jq : Mem} (hf : fX8_play J = some (r9, Jq)) : zb_Ct l g nc yX8_play cX8_play 4 (some .int) 9 191 [.ref (g.2.2 + 306)] (zb_ce g I J O) (some (.int r9)) (zb_ce g I Jq O) := by
  refine zb_ofW (own := RX8) (by decide +kernel) rfl (Nat.le_of_ble_eq_true rfl) ?_
  intro p e s m args below meth c ls X hr hP hl
  have hx := X.1.1
  have hb := X.1.2.1
  have ho := X.1.2.2.2.1
  have hts := X.1.2.2.2.2
  have hZ := X.2.2.2
  have hl : lv_has ls 4 [(0, .ref (g.2.2 + 306))] := hl
  have hS : va_S (zb_A g) s.heap s.heap [] := va_S.rf
  obtain ⟨H, hH⟩ : ∃ H, H = s.heap := ⟨_, rfl⟩
  obtain ⟨locs, hlocs⟩ : ∃ z : List Loc, z = [] := ⟨_, rfl⟩
  rw [← hH] at hP
  have hS : va_S (zb_A g) s.heap H locs := by rw [hH, hlocs]; exact hS
  show W p l e _ s m args below meth c s.heap [] 0 0 _ _
  rw [← hH, ← hlocs]
  rw [fX8_play] at hf
  refine lv_aload_n hx hb dX8_play_0 rfl (lv_at hl 0 rfl) ?_
  refine lv_iconst (v := (0 : Int32)) hx hb dX8_play_1 (by decide) ?_
  refine pf_X8_57 X hnJ hP hS zk_306 dX8_play_2 (fun H locs hP hS => ?_)
  refine lv_aload_n hx hb dX8_play_5 rfl (lv_at hl 0 rfl) ?_
  obtain ⟨J1, hJ1, hf⟩ := ob_e hf
  refine zr_cVv (rest := []) (As := []) X hP hS (ct_X8_begins (g := g) (nc := nc) (I := I) (J := (wr J 306 0 (0 : Int32))) (O := O) hnJ l  hJ1) cw_X8_158 (zr_recv X hP (Nat.lt_of_lt_of_le (zk_306).2.1 hnJ) (zb_ceJo zk_306 (by decide)) rfl) rfl hl.1 (Nat.le_of_ble_eq_true rfl) ⟨Nat.le_of_ble_eq_true rfl, Nat.le_of_ble_eq_true rfl⟩ ⟨Nat.le_of_ble_eq_true rfl, Nat.le_of_ble_eq_true rfl⟩ dX8_play_6 rfl (fun H locs hP hS => ?_)
  refine lv_aload_n hx hb dX8_play_9 rfl (lv_at hl 0 rfl) ?_
  refine lv_iconst (v := (0 : Int32)) hx hb dX8_play_10 (by decide) ?_
  refine pf_X8_343 X hnJ hP hS zk_306 dX8_play_11 (fun H locs hP hS => ?_)
  refine lv_aload_n hx hb dX8_play_14 rfl (lv_at hl 0 rfl) ?_
  refine lv_iconst (v := (0 : Int32)) hx hb dX8_play_15 (by decide) ?_
  refine pf_X8_368 X hnJ hP hS zk_306 dX8_play_16 (fun H locs hP hS => ?_)
  refine lv_iconst (v := (1 : Int32)) hx hb dX8_play_19 (by decide) ?_
  refine lv_istore_n (lv' := [(1, .int (1 : Int32)), (0, .ref (g.2.2 + 306))]) hx hb dX8_play_20 rfl hl (by decide) rfl (fun ls hl => ?_)
  obtain ⟨x8, J9, hx8_J9, hf⟩ := ob2_e hf
  have K2 : ∀ (H : Heap) (locs : List Loc) (ls : Array Slot), va_P g.1 vwCl (zb_ws g nc (zb_ce g I J9 O)) H → va_S (zb_A g) s.heap H locs → lv_has ls 4 [(1, .int x8), (0, .ref (g.2.2 + 306))] → W p l e { frames := 9, cells := 0, slots := 0, locals := 191 } s m args below meth c H locs 0 0 (MQ below (zb_Po g nc (zb_ce g I Jq O) (some (.int r9))) args s 0 0 (zb_A g)) (F0 m 55 ls []) := by
    intro H locs ls hP hS hl
    refine lv_aload_n hx hb dX8_play_55 rfl (lv_at hl 1 rfl) ?_
    refine lv_iconst (v := (0 : Int32)) hx hb dX8_play_56 (by decide) ?_
    refine pf_X8_68 X hnJ hP hS zk_306 dX8_play_57 (fun H locs hP hS => ?_)
    refine lv_iload_n hx hb dX8_play_60 rfl (lv_at hl 0 rfl) ?_
    refine lv_if_ne (tgt := 66) hx hb dX8_play_61 (by decide) (fun hc => ?_) (fun hc => ?_)
    · have hf := if_f hc hf
      refine lv_iconst (v := (0 : Int32)) hx hb dX8_play_66 (by decide) ?_
      refine lv_istore_n (lv' := [(2, .int (0 : Int32)), (1, .int x8), (0, .ref (g.2.2 + 306))]) hx hb dX8_play_67 rfl hl (by decide) rfl (fun ls hl => ?_)
      refine lv_iconst (v := (0 : Int32)) hx hb dX8_play_68 (by decide) ?_
      refine lv_istore_n (lv' := [(3, .int (0 : Int32)), (2, .int (0 : Int32)), (1, .int x8), (0, .ref (g.2.2 + 306))]) hx hb dX8_play_69 rfl hl (by decide) rfl (fun ls hl => ?_)
      obtain ⟨x13, J14, hx13_J14, hf⟩ := ob2_e hf
      have K3 : ∀ (H : Heap) (locs : List Loc) (ls : Array Slot), va_P g.1 vwCl (zb_ws g nc (zb_ce g I J14 O)) H → va_S (zb_A g) s.heap H locs → lv_has ls 4 [(2, .int x13)] → W p l e { frames := 9, cells := 0, slots := 0, locals := 191 } s m args below meth c H locs 0 0 (MQ below (zb_Po g nc (zb_ce g I Jq O) (some (.int r9))) args s 0 0 (zb_A g)) (F0 m 100 ls []) := by
        intro H locs ls hP hS hl
        refine lv_iload_n hx hb dX8_play_100 rfl (lv_at hl 0 rfl) ?_
        cases hf
        exact zr_iret X hr hP hS dX8_play_101
      exact lpX8_play_L70 hnJ l  X hx13_J14 K3 hP hS (lv_sub hl [0, 1, 3] rfl)
    · have hf := if_t hc hf
      refine lv_iconst (v := (-1 : Int32)) hx hb dX8_play_64 (by decide) ?_
      cases hf
      exact zr_iret X hr hP hS dX8_play_65
  exact lpX8_play_L21 hnJ l  X hx8_J9 K2 hP hS (lv_sub hl [0, 1] rfl)
set_option maxHeartbeats 4000000 in
set_option maxRecDepth 100000 in
theorem ct_X8_writes {g : zb_G} {nc : Nat} (hnJ : 318 ≤ nc) (l : Launch) {a1 : Int32} {I J O : Mem} {Jq : Mem} (hf : fX8_writes a1 J = some Jq) : zb_Ct l g nc yX8_writes cX8_writes 2 none 0 0 [.ref (g.2.2 + 306), .int a1] (zb_ce g I J O) none (zb_ce g I Jq O) := by
  refine zb_ofW (own := RX8) (by decide +kernel) rfl (Nat.le_of_ble_eq_true rfl) ?_
  intro p e s m args below meth c ls X hr hP hl
  have hx := X.1.1
  have hb := X.1.2.1
  have ho := X.1.2.2.2.1
  have hts := X.1.2.2.2.2
  have hZ := X.2.2.2
  have hl : lv_has ls 2 [(0, .ref (g.2.2 + 306)), (1, .int a1)] := hl
  have hS : va_S (zb_A g) s.heap s.heap [] := va_S.rf
  obtain ⟨H, hH⟩ : ∃ H, H = s.heap := ⟨_, rfl⟩
  obtain ⟨locs, hlocs⟩ : ∃ z : List Loc, z = [] := ⟨_, rfl⟩
  rw [← hH] at hP
  have hS : va_S (zb_A g) s.heap H locs := by rw [hH, hlocs]; exact hS
  show W p l e _ s m args below meth c s.heap [] 0 0 _ _
  rw [← hH, ← hlocs]
  rw [fX8_writes] at hf
  refine lv_aload_n hx hb dX8_writes_0 rfl (lv_at hl 0 rfl) ?_
  refine gf_X8_46 X hnJ hP zk_306 dX8_writes_1 ?_
  refine lv_aload_n hx hb dX8_writes_4 rfl (lv_at hl 0 rfl) ?_
  refine gf_X8_389 X hnJ hP zk_306 dX8_writes_5 ?_
  refine lv_iload_n hx hb dX8_writes_8 rfl (lv_at hl 1 rfl) ?_
  obtain ⟨J1, hJ1, hf⟩ := ob_e hf
  refine zr_astJ X hP hS hnJ zk_317 hJ1 dX8_writes_9 (fun H locs hP hS => ?_)
  refine lv_aload_n hx hb dX8_writes_10 rfl (lv_at hl 0 rfl) ?_
  refine lv_dup hx hb dX8_writes_11 rfl ?_
  refine gf_X8_389 X hnJ hP zk_306 dX8_writes_12 ?_
  refine lv_iconst (v := (1 : Int32)) hx hb dX8_writes_15 (by decide) ?_
  refine lv_iadd hx hb dX8_writes_16 ?_
  refine pf_X8_389 X hnJ hP hS zk_306 dX8_writes_17 (fun H locs hP hS => ?_)
  cases hf
  exact zr_vret X hr hP hS rfl dX8_writes_20
set_option maxHeartbeats 4000000 in
set_option maxRecDepth 100000 in
theorem lpX8_writesNumber_L23 {g : zb_G} {nc : Nat} (hnJ : 318 ≤ nc) (l : Launch) {a2 : Int32} {I J O : Mem} {p : Program} {e : Env} {s : State} {m : MethodId} {args : Array Value} {below : List Frame} {meth : Method} {c : Code} {Q : State → Prop} (X : zb_X g p m c cX8_writesNumber 4 s args RX8 meth) : ∀ {n9 : Nat} {a3 : Int32} {z3 : Int32} {H : Heap} {locs : List Loc} {ls : Array Slot}, fX8_writesNumber_L23 a2 n9 a3 = some z3 → (∀ (H : Heap) (locs : List Loc) (ls : Array Slot), va_P g.1 vwCl (zb_ws g nc (zb_ce g I J O)) H → va_S (zb_A g) s.heap H locs → lv_has ls 4 [(3, .int z3), (2, .int a2), (0, .ref (g.2.2 + 306))] → W p l e { frames := 1, cells := 0, slots := 0, locals := 21 } s m args below meth c H locs 0 0 Q (F0 m 39 ls [])) → va_P g.1 vwCl (zb_ws g nc (zb_ce g I J O)) H → va_S (zb_A g) s.heap H locs → lv_has ls 4 [(3, .int a3), (2, .int a2), (0, .ref (g.2.2 + 306))] → W p l e { frames := 1, cells := 0, slots := 0, locals := 21 } s m args below meth c H locs 0 0 Q (F0 m 23 ls []) := by
  have hx := X.1.1
  have hb := X.1.2.1
  have ho := X.1.2.2.2.1
  have hts := X.1.2.2.2.2
  have hZ := X.2.2.2
  intro n9
  induction n9 with
  | zero =>
    intro a3 z3 H locs ls hf
    exact nomatch hf
  | succ n9 ih =>
    intro a3 z3 H locs ls hf KK hP hS hl
    rw [fX8_writesNumber_L23] at hf
    refine lv_iload_n hx hb dX8_writesNumber_23 rfl (lv_at hl 1 rfl) ?_
    refine lv_iload_n hx hb dX8_writesNumber_24 rfl (lv_at hl 0 rfl) ?_
    obtain ⟨x4, hx4, hf⟩ := ob_e hf
    refine zr_idiv X hx4 dX8_writesNumber_25 ?_
    refine lv_bipush (v := (9 : Int32)) hx hb dX8_writesNumber_26 (by decide) ?_
    refine lv_icmp_le (tgt := 39) hx hb dX8_writesNumber_28 (by decide) (fun hc => ?_) (fun hc => ?_)
    · have hf := if_t hc hf
      cases hf
      exact KK H locs ls hP hS (lv_sub hl [0, 1, 2] rfl)
    · have hf := if_f hc hf
      refine lv_iload_n hx hb dX8_writesNumber_31 rfl (lv_at hl 0 rfl) ?_
      refine lv_bipush (v := (10 : Int32)) hx hb dX8_writesNumber_32 (by decide) ?_
      refine lv_imul hx hb dX8_writesNumber_34 ?_
      refine lv_istore_n (lv' := [(3, .int (a3 * (10 : Int32))), (2, .int a2), (0, .ref (g.2.2 + 306))]) hx hb dX8_writesNumber_35 rfl hl (by decide) rfl (fun ls hl => ?_)
      refine lv_goto (tgt := 23) hx hb dX8_writesNumber_36 (by decide) ?_
      exact ih hf KK hP hS (lv_sub hl [0, 1, 2] rfl)
set_option maxHeartbeats 4000000 in
set_option maxRecDepth 100000 in
theorem lpX8_writesNumber_L39 {g : zb_G} {nc : Nat} (hnJ : 318 ≤ nc) (l : Launch) {a2 : Int32} {I O : Mem} {p : Program} {e : Env} {s : State} {m : MethodId} {args : Array Value} {below : List Frame} {meth : Method} {c : Code} {Q : State → Prop} (X : zb_X g p m c cX8_writesNumber 4 s args RX8 meth) : ∀ {n9 : Nat} {a3 : Int32} {J : Mem} {Jz : Mem} {H : Heap} {locs : List Loc} {ls : Array Slot}, fX8_writesNumber_L39 a2 n9 a3 J = some Jz → (∀ (H : Heap) (locs : List Loc) (ls : Array Slot), va_P g.1 vwCl (zb_ws g nc (zb_ce g I Jz O)) H → va_S (zb_A g) s.heap H locs → lv_has ls 4 [] → W p l e { frames := 1, cells := 0, slots := 0, locals := 21 } s m args below meth c H locs 0 0 Q (F0 m 64 ls [])) → va_P g.1 vwCl (zb_ws g nc (zb_ce g I J O)) H → va_S (zb_A g) s.heap H locs → lv_has ls 4 [(3, .int a3), (2, .int a2), (0, .ref (g.2.2 + 306))] → W p l e { frames := 1, cells := 0, slots := 0, locals := 21 } s m args below meth c H locs 0 0 Q (F0 m 39 ls []) := by
  have hx := X.1.1
  have hb := X.1.2.1
  have ho := X.1.2.2.2.1
  have hts := X.1.2.2.2.2
  have hZ := X.2.2.2
  intro n9
  induction n9 with
  | zero =>
    intro a3 J Jz H locs ls hf
    exact nomatch hf
  | succ n9 ih =>
    intro a3 J Jz H locs ls hf KK hP hS hl
    rw [fX8_writesNumber_L39] at hf
    refine lv_iload_n hx hb dX8_writesNumber_39 rfl (lv_at hl 0 rfl) ?_
    refine lv_if_le (tgt := 64) hx hb dX8_writesNumber_40 (by decide) (fun hc => ?_) (fun hc => ?_)
    · have hf := if_t hc hf
      cases hf
      exact KK H locs ls hP hS (lv_sub hl [] rfl)
    · have hf := if_f hc hf
      refine lv_aload_n hx hb dX8_writesNumber_43 rfl (lv_at hl 2 rfl) ?_
      refine lv_bipush (v := (48 : Int32)) hx hb dX8_writesNumber_44 (by decide) ?_
      refine lv_iload_n hx hb dX8_writesNumber_46 rfl (lv_at hl 1 rfl) ?_
      refine lv_iload_n hx hb dX8_writesNumber_47 rfl (lv_at hl 0 rfl) ?_
      obtain ⟨x6, hx6, hf⟩ := ob_e hf
      refine zr_idiv X hx6 dX8_writesNumber_48 ?_
      refine lv_bipush (v := (10 : Int32)) hx hb dX8_writesNumber_49 (by decide) ?_
      obtain ⟨x7, hx7, hf⟩ := ob_e hf
      refine zr_irem X hx7 dX8_writesNumber_51 ?_
      refine lv_iadd hx hb dX8_writesNumber_52 ?_
      obtain ⟨J8, hJ8, hf⟩ := ob_e hf
      refine zr_cVv (rest := []) (As := [.int ((48 : Int32) + x7)]) X hP hS (ct_X8_writes (g := g) (nc := nc) (I := I) (J := J) (O := O) hnJ l  hJ8) cw_X8_392 (zr_recv X hP (Nat.lt_of_lt_of_le (zk_306).2.1 hnJ) (zb_ceJo zk_306 (by decide)) rfl) rfl hl.1 (Nat.le_of_ble_eq_true rfl) ⟨Nat.le_of_ble_eq_true rfl, Nat.le_of_ble_eq_true rfl⟩ ⟨Nat.le_of_ble_eq_true rfl, Nat.le_of_ble_eq_true rfl⟩ dX8_writesNumber_53 rfl (fun H locs hP hS => ?_)
      refine lv_iload_n hx hb dX8_writesNumber_56 rfl (lv_at hl 0 rfl) ?_
      refine lv_bipush (v := (10 : Int32)) hx hb dX8_writesNumber_57 (by decide) ?_
      obtain ⟨x9, hx9, hf⟩ := ob_e hf
      refine zr_idiv X hx9 dX8_writesNumber_59 ?_
      refine lv_istore_n (lv' := [(3, .int x9), (2, .int a2), (0, .ref (g.2.2 + 306))]) hx hb dX8_writesNumber_60 rfl hl (by decide) rfl (fun ls hl => ?_)
      refine lv_goto (tgt := 39) hx hb dX8_writesNumber_61 (by decide) ?_
      exact ih hf KK hP hS (lv_sub hl [0, 1, 2] rfl)
set_option maxHeartbeats 4000000 in
set_option maxRecDepth 100000 in
theorem ct_X8_writesNumber {g : zb_G} {nc : Nat} (hnJ : 318 ≤ nc) (l : Launch) {a1 : Int32} {I J O : Mem} {Jq : Mem} (hf : fX8_writesNumber a1 J = some Jq) : zb_Ct l g nc yX8_writesNumber cX8_writesNumber 4 none 1 21 [.ref (g.2.2 + 306), .int a1] (zb_ce g I J O) none (zb_ce g I Jq O) := by
  refine zb_ofW (own := RX8) (by decide +kernel) rfl (Nat.le_of_ble_eq_true rfl) ?_
  intro p e s m args below meth c ls X hr hP hl
  have hx := X.1.1
  have hb := X.1.2.1
  have ho := X.1.2.2.2.1
  have hts := X.1.2.2.2.2
  have hZ := X.2.2.2
  have hl : lv_has ls 4 [(0, .ref (g.2.2 + 306)), (1, .int a1)] := hl
  have hS : va_S (zb_A g) s.heap s.heap [] := va_S.rf
  obtain ⟨H, hH⟩ : ∃ H, H = s.heap := ⟨_, rfl⟩
  obtain ⟨locs, hlocs⟩ : ∃ z : List Loc, z = [] := ⟨_, rfl⟩
  rw [← hH] at hP
  have hS : va_S (zb_A g) s.heap H locs := by rw [hH, hlocs]; exact hS
  show W p l e _ s m args below meth c s.heap [] 0 0 _ _
  rw [← hH, ← hlocs]
  rw [fX8_writesNumber] at hf
  refine lv_iload_n hx hb dX8_writesNumber_0 rfl (lv_at hl 1 rfl) ?_
  obtain ⟨J2, ht, hf⟩ := ob_e hf
  have K1 : ∀ (H : Heap) (locs : List Loc) (ls : Array Slot), va_P g.1 vwCl (zb_ws g nc (zb_ce g I J2 O)) H → va_S (zb_A g) s.heap H locs → lv_has ls 4 [(0, .ref (g.2.2 + 306)), (1, .int a1)] → W p l e { frames := 1, cells := 0, slots := 0, locals := 21 } s m args below meth c H locs 0 0 (MQ below (zb_Po g nc (zb_ce g I Jq O) none) args s 0 0 (zb_A g)) (F0 m 10 ls []) := by
    intro H locs ls hP hS hl
    refine lv_iload_n hx hb dX8_writesNumber_10 rfl (lv_at hl 1 rfl) ?_
    obtain ⟨x3, ht, hf⟩ := pl_e hf
    have K2 : ∀ (H : Heap) (locs : List Loc) (ls : Array Slot), va_P g.1 vwCl (zb_ws g nc (zb_ce g I J2 O)) H → va_S (zb_A g) s.heap H locs → lv_has ls 4 [(0, .ref (g.2.2 + 306))] → W p l e { frames := 1, cells := 0, slots := 0, locals := 21 } s m args below meth c H locs 0 0 (MQ below (zb_Po g nc (zb_ce g I Jq O) none) args s 0 0 (zb_A g)) (F0 m 20 ls [.int x3]) := by
      intro H locs ls hP hS hl
      refine lv_istore_n (lv' := [(2, .int x3), (0, .ref (g.2.2 + 306))]) hx hb dX8_writesNumber_20 rfl hl (by decide) rfl (fun ls hl => ?_)
      refine lv_iconst (v := (1 : Int32)) hx hb dX8_writesNumber_21 (by decide) ?_
      refine lv_istore_n (lv' := [(3, .int (1 : Int32)), (2, .int x3), (0, .ref (g.2.2 + 306))]) hx hb dX8_writesNumber_22 rfl hl (by decide) rfl (fun ls hl => ?_)
      obtain ⟨x5, hx5, hf⟩ := ob_e hf
      have K3 : ∀ (H : Heap) (locs : List Loc) (ls : Array Slot), va_P g.1 vwCl (zb_ws g nc (zb_ce g I J2 O)) H → va_S (zb_A g) s.heap H locs → lv_has ls 4 [(3, .int x5), (2, .int x3), (0, .ref (g.2.2 + 306))] → W p l e { frames := 1, cells := 0, slots := 0, locals := 21 } s m args below meth c H locs 0 0 (MQ below (zb_Po g nc (zb_ce g I Jq O) none) args s 0 0 (zb_A g)) (F0 m 39 ls []) := by
        intro H locs ls hP hS hl
        obtain ⟨J10, hJ10, hf⟩ := ob_e hf
        have K4 : ∀ (H : Heap) (locs : List Loc) (ls : Array Slot), va_P g.1 vwCl (zb_ws g nc (zb_ce g I J10 O)) H → va_S (zb_A g) s.heap H locs → lv_has ls 4 [] → W p l e { frames := 1, cells := 0, slots := 0, locals := 21 } s m args below meth c H locs 0 0 (MQ below (zb_Po g nc (zb_ce g I Jq O) none) args s 0 0 (zb_A g)) (F0 m 64 ls []) := by
          intro H locs ls hP hS hl
          cases hf
          exact zr_vret X hr hP hS rfl dX8_writesNumber_64
        exact lpX8_writesNumber_L39 hnJ l  X hJ10 K4 hP hS (lv_sub hl [0, 1, 2] rfl)
      exact lpX8_writesNumber_L23 hnJ l  X hx5 K3 hP hS (lv_sub hl [0, 1, 2] rfl)
    have hf := ht
    refine lv_if_ge (tgt := 19) hx hb dX8_writesNumber_11 (by decide) (fun hc => ?_) (fun hc => ?_)
    · have hf := if_t hc hf
      refine lv_iload_n hx hb dX8_writesNumber_19 rfl (lv_at hl 1 rfl) ?_
      cases hf
      exact K2 H locs ls hP hS (lv_sub hl [0] rfl)
    · have hf := if_f hc hf
      refine lv_iload_n hx hb dX8_writesNumber_14 rfl (lv_at hl 1 rfl) ?_
      refine lv_ineg hx hb dX8_writesNumber_15 ?_
      refine lv_goto (tgt := 20) hx hb dX8_writesNumber_16 (by decide) ?_
      cases hf
      exact K2 H locs ls hP hS (lv_sub hl [0] rfl)
  have hf := ht
  refine lv_if_ge (tgt := 10) hx hb dX8_writesNumber_1 (by decide) (fun hc => ?_) (fun hc => ?_)
  · have hf := if_t hc hf
    cases hf
    exact K1 H locs ls hP hS (lv_sub hl [0, 1] rfl)
  · have hf := if_f hc hf
    refine lv_aload_n hx hb dX8_writesNumber_4 rfl (lv_at hl 0 rfl) ?_
    refine lv_bipush (v := (45 : Int32)) hx hb dX8_writesNumber_5 (by decide) ?_
    obtain ⟨J1, hJ1, hf⟩ := ob_e hf
    refine zr_cVv (rest := []) (As := [.int (45 : Int32)]) X hP hS (ct_X8_writes (g := g) (nc := nc) (I := I) (J := J) (O := O) hnJ l  hJ1) cw_X8_392 (zr_recv X hP (Nat.lt_of_lt_of_le (zk_306).2.1 hnJ) (zb_ceJo zk_306 (by decide)) rfl) rfl hl.1 (Nat.le_of_ble_eq_true rfl) ⟨Nat.le_of_ble_eq_true rfl, Nat.le_of_ble_eq_true rfl⟩ ⟨Nat.le_of_ble_eq_true rfl, Nat.le_of_ble_eq_true rfl⟩ dX8_writesNumber_7 rfl (fun H locs hP hS => ?_)
    cases hf
    exact K1 H locs ls hP hS (lv_sub hl [0, 1] rfl)
set_option maxHeartbeats 4000000 in
set_option maxRecDepth 100000 in
theorem lpX8_writeString_L12 {g : zb_G} {nc : Nat} (hnJ : 318 ≤ nc) (l : Launch) {I O : Mem} {p : Program} {e : Env} {s : State} {m : MethodId} {args : Array Value} {below : List Frame} {meth : Method} {c : Code} {Q : State → Prop} (X : zb_X g p m c cX8_writeString 2 s args RX8 meth) : ∀ {n9 : Nat} {a1 : Int32} {J : Mem} {Jz : Mem} {H : Heap} {locs : List Loc} {ls : Array Slot}, fX8_writeString_L12 n9 a1 J = some Jz → (∀ (H : Heap) (locs : List Loc) (ls : Array Slot), va_P g.1 vwCl (zb_ws g nc (zb_ce g I Jz O)) H → va_S (zb_A g) s.heap H locs → lv_has ls 2 [(0, .ref (g.2.2 + 306))] → W p l e { frames := 2, cells := 0, slots := 0, locals := 44 } s m args below meth c H locs 0 0 Q (F0 m 110 ls [])) → va_P g.1 vwCl (zb_ws g nc (zb_ce g I J O)) H → va_S (zb_A g) s.heap H locs → lv_has ls 2 [(1, .int a1), (0, .ref (g.2.2 + 306))] → W p l e { frames := 2, cells := 0, slots := 0, locals := 44 } s m args below meth c H locs 0 0 Q (F0 m 12 ls []) := by
  have hx := X.1.1
  have hb := X.1.2.1
  have ho := X.1.2.2.2.1
  have hts := X.1.2.2.2.2
  have hZ := X.2.2.2
  intro n9
  induction n9 with
  | zero =>
    intro a1 J Jz H locs ls hf
    exact nomatch hf
  | succ n9 ih =>
    intro a1 J Jz H locs ls hf KK hP hS hl
    rw [fX8_writeString_L12] at hf
    refine lv_iload_n hx hb dX8_writeString_12 rfl (lv_at hl 0 rfl) ?_
    refine lv_aload_n hx hb dX8_writeString_13 rfl (lv_at hl 1 rfl) ?_
    refine gf_X8_7 X hnJ hP zk_306 dX8_writeString_14 ?_
    refine lv_iconst (v := (0 : Int32)) hx hb dX8_writeString_17 (by decide) ?_
    obtain ⟨x1, hx1, hf⟩ := ob_e hf
    refine zr_aldJ X hP hnJ zk_307 hx1 dX8_writeString_18 ?_
    refine lv_icmp_ge (tgt := 110) hx hb dX8_writeString_19 (by decide) (fun hc => ?_) (fun hc => ?_)
    · have hf := if_t hc hf
      cases hf
      exact KK H locs ls hP hS (lv_sub hl [1] rfl)
    · have hf := if_f hc hf
      refine lv_aload_n hx hb dX8_writeString_22 rfl (lv_at hl 1 rfl) ?_
      refine lv_iload_n hx hb dX8_writeString_23 rfl (lv_at hl 0 rfl) ?_
      obtain ⟨J2, hJ2, hf⟩ := ob_e hf
      refine zr_cVv (rest := []) (As := [.int a1]) X hP hS (ct_X8_writesNumber (g := g) (nc := nc) (I := I) (J := J) (O := O) hnJ l  hJ2) cw_X8_395 (zr_recv X hP (Nat.lt_of_lt_of_le (zk_306).2.1 hnJ) (zb_ceJo zk_306 (by decide)) rfl) rfl hl.1 (Nat.le_of_ble_eq_true rfl) ⟨Nat.le_of_ble_eq_true rfl, Nat.le_of_ble_eq_true rfl⟩ ⟨Nat.le_of_ble_eq_true rfl, Nat.le_of_ble_eq_true rfl⟩ dX8_writeString_24 rfl (fun H locs hP hS => ?_)
      refine lv_aload_n hx hb dX8_writeString_27 rfl (lv_at hl 1 rfl) ?_
      refine lv_aload_n hx hb dX8_writeString_28 rfl (lv_at hl 1 rfl) ?_
      refine gf_X8_7 X hnJ hP zk_306 dX8_writeString_29 ?_
      refine lv_bipush (v := (52 : Int32)) hx hb dX8_writeString_32 (by decide) ?_
      refine lv_iload_n hx hb dX8_writeString_34 rfl (lv_at hl 0 rfl) ?_
      refine lv_iadd hx hb dX8_writeString_35 ?_
      obtain ⟨x3, hx3, hf⟩ := ob_e hf
      refine zr_aldJ X hP hnJ zk_307 hx3 dX8_writeString_36 ?_
      obtain ⟨x5, ht, hf⟩ := ob_e hf
      have K1 : ∀ (H : Heap) (locs : List Loc) (ls : Array Slot), va_P g.1 vwCl (zb_ws g nc (zb_ce g I J2 O)) H → va_S (zb_A g) s.heap H locs → lv_has ls 2 [(1, .int a1), (0, .ref (g.2.2 + 306))] → W p l e { frames := 2, cells := 0, slots := 0, locals := 44 } s m args below meth c H locs 0 0 Q (F0 m 65 ls [.int x5, .ref (g.2.2 + 306)]) := by
        intro H locs ls hP hS hl
        obtain ⟨J6, hJ6, hf⟩ := ob_e hf
        refine zr_cVv (rest := []) (As := [.int x5]) X hP hS (ct_X8_writes (g := g) (nc := nc) (I := I) (J := J2) (O := O) hnJ l  hJ6) cw_X8_392 (zr_recv X hP (Nat.lt_of_lt_of_le (zk_306).2.1 hnJ) (zb_ceJo zk_306 (by decide)) rfl) rfl hl.1 (Nat.le_of_ble_eq_true rfl) ⟨Nat.le_of_ble_eq_true rfl, Nat.le_of_ble_eq_true rfl⟩ ⟨Nat.le_of_ble_eq_true rfl, Nat.le_of_ble_eq_true rfl⟩ dX8_writeString_65 rfl (fun H locs hP hS => ?_)
        refine lv_iload_n hx hb dX8_writeString_68 rfl (lv_at hl 0 rfl) ?_
        refine lv_iconst (v := (1 : Int32)) hx hb dX8_writeString_69 (by decide) ?_
        refine lv_iadd hx hb dX8_writeString_70 ?_
        refine lv_aload_n hx hb dX8_writeString_71 rfl (lv_at hl 1 rfl) ?_
        refine gf_X8_7 X hnJ hP zk_306 dX8_writeString_72 ?_
        refine lv_iconst (v := (0 : Int32)) hx hb dX8_writeString_75 (by decide) ?_
        obtain ⟨x7, hx7, hf⟩ := ob_e hf
        refine zr_aldJ X hP hnJ zk_307 hx7 dX8_writeString_76 ?_
        obtain ⟨J11, ht, hf⟩ := ob_e hf
        have K2 : ∀ (H : Heap) (locs : List Loc) (ls : Array Slot), va_P g.1 vwCl (zb_ws g nc (zb_ce g I J11 O)) H → va_S (zb_A g) s.heap H locs → lv_has ls 2 [(1, .int a1), (0, .ref (g.2.2 + 306))] → W p l e { frames := 2, cells := 0, slots := 0, locals := 44 } s m args below meth c H locs 0 0 Q (F0 m 104 ls []) := by
          intro H locs ls hP hS hl
          refine lv_iinc (v := (a1 + (1 : Int32))) (lv' := [(1, .int (a1 + (1 : Int32))), (0, .ref (g.2.2 + 306))]) hx hb dX8_writeString_104 hl (k := 0) rfl rfl (by decide) rfl (fun ls hl => ?_)
          refine lv_goto (tgt := 12) hx hb dX8_writeString_107 (by decide) ?_
          exact ih hf KK hP hS (lv_sub hl [0, 1] rfl)
        have hf := ht
        refine lv_icmp_ge (tgt := 104) hx hb dX8_writeString_77 (by decide) (fun hc => ?_) (fun hc => ?_)
        · have hf := if_t hc hf
          cases hf
          exact K2 H locs ls hP hS (lv_sub hl [0, 1] rfl)
        · have hf := if_f hc hf
          refine lv_aload_n hx hb dX8_writeString_80 rfl (lv_at hl 1 rfl) ?_
          refine lv_aload_n hx hb dX8_writeString_81 rfl (lv_at hl 1 rfl) ?_
          refine gf_X8_7 X hnJ hP zk_306 dX8_writeString_82 ?_
          refine lv_sipush (v := (132 : Int32)) hx hb dX8_writeString_85 (by decide) ?_
          refine lv_iload_n hx hb dX8_writeString_88 rfl (lv_at hl 0 rfl) ?_
          refine lv_iadd hx hb dX8_writeString_89 ?_
          obtain ⟨x8, hx8, hf⟩ := ob_e hf
          refine zr_aldJ X hP hnJ zk_307 hx8 dX8_writeString_90 ?_
          obtain ⟨x9, ht, hf⟩ := pl_e hf
          have K3 : ∀ (H : Heap) (locs : List Loc) (ls : Array Slot), va_P g.1 vwCl (zb_ws g nc (zb_ce g I J6 O)) H → va_S (zb_A g) s.heap H locs → lv_has ls 2 [(1, .int a1), (0, .ref (g.2.2 + 306))] → W p l e { frames := 2, cells := 0, slots := 0, locals := 44 } s m args below meth c H locs 0 0 Q (F0 m 101 ls [.int x9, .ref (g.2.2 + 306)]) := by
            intro H locs ls hP hS hl
            obtain ⟨J10, hJ10, hf⟩ := ob_e hf
            refine zr_cVv (rest := []) (As := [.int x9]) X hP hS (ct_X8_writes (g := g) (nc := nc) (I := I) (J := J6) (O := O) hnJ l  hJ10) cw_X8_392 (zr_recv X hP (Nat.lt_of_lt_of_le (zk_306).2.1 hnJ) (zb_ceJo zk_306 (by decide)) rfl) rfl hl.1 (Nat.le_of_ble_eq_true rfl) ⟨Nat.le_of_ble_eq_true rfl, Nat.le_of_ble_eq_true rfl⟩ ⟨Nat.le_of_ble_eq_true rfl, Nat.le_of_ble_eq_true rfl⟩ dX8_writeString_101 rfl (fun H locs hP hS => ?_)
            cases hf
            exact K2 H locs ls hP hS (lv_sub hl [0, 1] rfl)
          have hf := ht
          refine lv_if_ne (tgt := 99) hx hb dX8_writeString_91 (by decide) (fun hc => ?_) (fun hc => ?_)
          · have hf := if_f hc hf
            refine lv_bipush (v := (32 : Int32)) hx hb dX8_writeString_99 (by decide) ?_
            cases hf
            exact K3 H locs ls hP hS (lv_sub hl [0, 1] rfl)
          · have hf := if_t hc hf
            refine lv_bipush (v := (45 : Int32)) hx hb dX8_writeString_94 (by decide) ?_
            refine lv_goto (tgt := 101) hx hb dX8_writeString_96 (by decide) ?_
            cases hf
            exact K3 H locs ls hP hS (lv_sub hl [0, 1] rfl)
      have hf := ht
      refine lv_if_ne (tgt := 45) hx hb dX8_writeString_37 (by decide) (fun hc => ?_) (fun hc => ?_)
      · have hf := if_f hc hf
        refine lv_aload_n hx hb dX8_writeString_45 rfl (lv_at hl 1 rfl) ?_
        refine gf_X8_7 X hnJ hP zk_306 dX8_writeString_46 ?_
        refine lv_bipush (v := (52 : Int32)) hx hb dX8_writeString_49 (by decide) ?_
        refine lv_iload_n hx hb dX8_writeString_51 rfl (lv_at hl 0 rfl) ?_
        refine lv_iadd hx hb dX8_writeString_52 ?_
        obtain ⟨x4, hx4, hf⟩ := ob_e hf
        refine zr_aldJ X hP hnJ zk_307 hx4 dX8_writeString_53 ?_
        refine lv_iconst (v := (1 : Int32)) hx hb dX8_writeString_54 (by decide) ?_
        refine lv_icmp_ne (tgt := 63) hx hb dX8_writeString_55 (by decide) (fun hc => ?_) (fun hc => ?_)
        · have hf := if_f hc hf
          refine lv_bipush (v := (68 : Int32)) hx hb dX8_writeString_63 (by decide) ?_
          cases hf
          exact K1 H locs ls hP hS (lv_sub hl [0, 1] rfl)
        · have hf := if_t hc hf
          refine lv_bipush (v := (83 : Int32)) hx hb dX8_writeString_58 (by decide) ?_
          refine lv_goto (tgt := 65) hx hb dX8_writeString_60 (by decide) ?_
          cases hf
          exact K1 H locs ls hP hS (lv_sub hl [0, 1] rfl)
      · have hf := if_t hc hf
        refine lv_bipush (v := (84 : Int32)) hx hb dX8_writeString_40 (by decide) ?_
        refine lv_goto (tgt := 65) hx hb dX8_writeString_42 (by decide) ?_
        cases hf
        exact K1 H locs ls hP hS (lv_sub hl [0, 1] rfl)
set_option maxHeartbeats 4000000 in
set_option maxRecDepth 100000 in
theorem ct_X8_writeString {g : zb_G} {nc : Nat} (hnJ : 318 ≤ nc) (l : Launch) {I J O : Mem} {r9 : Int32} {Jq : Mem} (hf : fX8_writeString J = some (r9, Jq)) : zb_Ct l g nc yX8_writeString cX8_writeString 2 (some .int) 2 44 [.ref (g.2.2 + 306)] (zb_ce g I J O) (some (.int r9)) (zb_ce g I Jq O) := by
  refine zb_ofW (own := RX8) (by decide +kernel) rfl (Nat.le_of_ble_eq_true rfl) ?_
  intro p e s m args below meth c ls X hr hP hl
  have hx := X.1.1
  have hb := X.1.2.1
  have ho := X.1.2.2.2.1
  have hts := X.1.2.2.2.2
  have hZ := X.2.2.2
  have hl : lv_has ls 2 [(0, .ref (g.2.2 + 306))] := hl
  have hS : va_S (zb_A g) s.heap s.heap [] := va_S.rf
  obtain ⟨H, hH⟩ : ∃ H, H = s.heap := ⟨_, rfl⟩
  obtain ⟨locs, hlocs⟩ : ∃ z : List Loc, z = [] := ⟨_, rfl⟩
  rw [← hH] at hP
  have hS : va_S (zb_A g) s.heap H locs := by rw [hH, hlocs]; exact hS
  show W p l e _ s m args below meth c s.heap [] 0 0 _ _
  rw [← hH, ← hlocs]
  rw [fX8_writeString] at hf
  refine lv_aload_n hx hb dX8_writeString_0 rfl (lv_at hl 0 rfl) ?_
  refine lv_iconst (v := (0 : Int32)) hx hb dX8_writeString_1 (by decide) ?_
  refine pf_X8_57 X hnJ hP hS zk_306 dX8_writeString_2 (fun H locs hP hS => ?_)
  refine lv_aload_n hx hb dX8_writeString_5 rfl (lv_at hl 0 rfl) ?_
  refine lv_iconst (v := (0 : Int32)) hx hb dX8_writeString_6 (by decide) ?_
  refine pf_X8_389 X hnJ hP hS zk_306 dX8_writeString_7 (fun H locs hP hS => ?_)
  refine lv_iconst (v := (0 : Int32)) hx hb dX8_writeString_10 (by decide) ?_
  refine lv_istore_n (lv' := [(1, .int (0 : Int32)), (0, .ref (g.2.2 + 306))]) hx hb dX8_writeString_11 rfl hl (by decide) rfl (fun ls hl => ?_)
  obtain ⟨J12, hJ12, hf⟩ := ob_e hf
  have K4 : ∀ (H : Heap) (locs : List Loc) (ls : Array Slot), va_P g.1 vwCl (zb_ws g nc (zb_ce g I J12 O)) H → va_S (zb_A g) s.heap H locs → lv_has ls 2 [(0, .ref (g.2.2 + 306))] → W p l e { frames := 2, cells := 0, slots := 0, locals := 44 } s m args below meth c H locs 0 0 (MQ below (zb_Po g nc (zb_ce g I Jq O) (some (.int r9))) args s 0 0 (zb_A g)) (F0 m 110 ls []) := by
    intro H locs ls hP hS hl
    refine lv_aload_n hx hb dX8_writeString_110 rfl (lv_at hl 0 rfl) ?_
    refine gf_X8_389 X hnJ hP zk_306 dX8_writeString_111 ?_
    cases hf
    exact zr_iret X hr hP hS dX8_writeString_114
  exact lpX8_writeString_L12 hnJ l  X hJ12 K4 hP hS (lv_sub hl [0, 1] rfl)
set_option maxHeartbeats 4000000 in
set_option maxRecDepth 100000 in
theorem lpX8_writeHours_L15 {g : zb_G} {nc : Nat} (hnJ : 318 ≤ nc) (l : Launch) {I O : Mem} {p : Program} {e : Env} {s : State} {m : MethodId} {args : Array Value} {below : List Frame} {meth : Method} {c : Code} {Q : State → Prop} (X : zb_X g p m c cX8_writeHours 2 s args RX8 meth) : ∀ {n9 : Nat} {a1 : Int32} {J : Mem} {Jz : Mem} {H : Heap} {locs : List Loc} {ls : Array Slot}, fX8_writeHours_L15 n9 a1 J = some Jz → (∀ (H : Heap) (locs : List Loc) (ls : Array Slot), va_P g.1 vwCl (zb_ws g nc (zb_ce g I Jz O)) H → va_S (zb_A g) s.heap H locs → lv_has ls 2 [(0, .ref (g.2.2 + 306))] → W p l e { frames := 2, cells := 0, slots := 0, locals := 44 } s m args below meth c H locs 0 0 Q (F0 m 84 ls [])) → va_P g.1 vwCl (zb_ws g nc (zb_ce g I J O)) H → va_S (zb_A g) s.heap H locs → lv_has ls 2 [(1, .int a1), (0, .ref (g.2.2 + 306))] → W p l e { frames := 2, cells := 0, slots := 0, locals := 44 } s m args below meth c H locs 0 0 Q (F0 m 15 ls []) := by
  have hx := X.1.1
  have hb := X.1.2.1
  have ho := X.1.2.2.2.1
  have hts := X.1.2.2.2.2
  have hZ := X.2.2.2
  intro n9
  induction n9 with
  | zero =>
    intro a1 J Jz H locs ls hf
    exact nomatch hf
  | succ n9 ih =>
    intro a1 J Jz H locs ls hf KK hP hS hl
    rw [fX8_writeHours_L15] at hf
    refine lv_iload_n hx hb dX8_writeHours_15 rfl (lv_at hl 0 rfl) ?_
    refine lv_aload_n hx hb dX8_writeHours_16 rfl (lv_at hl 1 rfl) ?_
    refine gf_X8_7 X hnJ hP zk_306 dX8_writeHours_17 ?_
    refine lv_iconst (v := (5 : Int32)) hx hb dX8_writeHours_20 (by decide) ?_
    obtain ⟨x2, hx2, hf⟩ := ob_e hf
    refine zr_aldJ X hP hnJ zk_307 hx2 dX8_writeHours_21 ?_
    refine lv_icmp_ge (tgt := 84) hx hb dX8_writeHours_22 (by decide) (fun hc => ?_) (fun hc => ?_)
    · have hf := if_t hc hf
      cases hf
      exact KK H locs ls hP hS (lv_sub hl [1] rfl)
    · have hf := if_f hc hf
      refine lv_iload_n hx hb dX8_writeHours_25 rfl (lv_at hl 0 rfl) ?_
      refine lv_aload_n hx hb dX8_writeHours_26 rfl (lv_at hl 1 rfl) ?_
      obtain ⟨x3, hx3, hf⟩ := ob_e hf
      refine zr_cVi (rest := [.int a1]) (As := []) X hP hS (ct_X8_firstHour (g := g) (nc := nc) (I := I) (J := J) (O := O) hnJ l  hx3) cw_X8_203 (zr_recv X hP (Nat.lt_of_lt_of_le (zk_306).2.1 hnJ) (zb_ceJo zk_306 (by decide)) rfl) rfl hl.1 (Nat.le_of_ble_eq_true rfl) ⟨Nat.le_of_ble_eq_true rfl, Nat.le_of_ble_eq_true rfl⟩ ⟨Nat.le_of_ble_eq_true rfl, Nat.le_of_ble_eq_true rfl⟩ dX8_writeHours_27 rfl (fun H locs hP hS => ?_)
      obtain ⟨J5, ht, hf⟩ := ob_e hf
      have K1 : ∀ (H : Heap) (locs : List Loc) (ls : Array Slot), va_P g.1 vwCl (zb_ws g nc (zb_ce g I J5 O)) H → va_S (zb_A g) s.heap H locs → lv_has ls 2 [(1, .int a1), (0, .ref (g.2.2 + 306))] → W p l e { frames := 2, cells := 0, slots := 0, locals := 44 } s m args below meth c H locs 0 0 Q (F0 m 39 ls []) := by
        intro H locs ls hP hS hl
        refine lv_aload_n hx hb dX8_writeHours_39 rfl (lv_at hl 1 rfl) ?_
        refine lv_iload_n hx hb dX8_writeHours_40 rfl (lv_at hl 0 rfl) ?_
        obtain ⟨J6, hJ6, hf⟩ := ob_e hf
        refine zr_cVv (rest := []) (As := [.int a1]) X hP hS (ct_X8_writesNumber (g := g) (nc := nc) (I := I) (J := J5) (O := O) hnJ l  hJ6) cw_X8_395 (zr_recv X hP (Nat.lt_of_lt_of_le (zk_306).2.1 hnJ) (zb_ceJo zk_306 (by decide)) rfl) rfl hl.1 (Nat.le_of_ble_eq_true rfl) ⟨Nat.le_of_ble_eq_true rfl, Nat.le_of_ble_eq_true rfl⟩ ⟨Nat.le_of_ble_eq_true rfl, Nat.le_of_ble_eq_true rfl⟩ dX8_writeHours_41 rfl (fun H locs hP hS => ?_)
        refine lv_aload_n hx hb dX8_writeHours_44 rfl (lv_at hl 1 rfl) ?_
        refine lv_iload_n hx hb dX8_writeHours_45 rfl (lv_at hl 0 rfl) ?_
        refine lv_iconst (v := (2 : Int32)) hx hb dX8_writeHours_46 (by decide) ?_
        obtain ⟨x7, hx7, hf⟩ := ob_e hf
        refine zr_cVi (rest := []) (As := [.int a1, .int (2 : Int32)]) X hP hS (ct_X8_of (g := g) (nc := nc) (I := I) (J := J6) (O := O) hnJ l  hx7) cw_X8_209 (zr_recv X hP (Nat.lt_of_lt_of_le (zk_306).2.1 hnJ) (zb_ceJo zk_306 (by decide)) rfl) rfl hl.1 (Nat.le_of_ble_eq_true rfl) ⟨Nat.le_of_ble_eq_true rfl, Nat.le_of_ble_eq_true rfl⟩ ⟨Nat.le_of_ble_eq_true rfl, Nat.le_of_ble_eq_true rfl⟩ dX8_writeHours_47 rfl (fun H locs hP hS => ?_)
        obtain ⟨J12, ht, hf⟩ := ob_e hf
        have K2 : ∀ (H : Heap) (locs : List Loc) (ls : Array Slot), va_P g.1 vwCl (zb_ws g nc (zb_ce g I J12 O)) H → va_S (zb_A g) s.heap H locs → lv_has ls 2 [(1, .int a1), (0, .ref (g.2.2 + 306))] → W p l e { frames := 2, cells := 0, slots := 0, locals := 44 } s m args below meth c H locs 0 0 Q (F0 m 78 ls []) := by
          intro H locs ls hP hS hl
          refine lv_iinc (v := (a1 + (1 : Int32))) (lv' := [(1, .int (a1 + (1 : Int32))), (0, .ref (g.2.2 + 306))]) hx hb dX8_writeHours_78 hl (k := 0) rfl rfl (by decide) rfl (fun ls hl => ?_)
          refine lv_goto (tgt := 15) hx hb dX8_writeHours_81 (by decide) ?_
          exact ih hf KK hP hS (lv_sub hl [0, 1] rfl)
        have hf := ht
        refine lv_if_ne (tgt := 62) hx hb dX8_writeHours_50 (by decide) (fun hc => ?_) (fun hc => ?_)
        · have hf := if_f hc hf
          refine lv_aload_n hx hb dX8_writeHours_62 rfl (lv_at hl 1 rfl) ?_
          refine lv_bipush (v := (61 : Int32)) hx hb dX8_writeHours_63 (by decide) ?_
          obtain ⟨J8, hJ8, hf⟩ := ob_e hf
          refine zr_cVv (rest := []) (As := [.int (61 : Int32)]) X hP hS (ct_X8_writes (g := g) (nc := nc) (I := I) (J := J6) (O := O) hnJ l  hJ8) cw_X8_392 (zr_recv X hP (Nat.lt_of_lt_of_le (zk_306).2.1 hnJ) (zb_ceJo zk_306 (by decide)) rfl) rfl hl.1 (Nat.le_of_ble_eq_true rfl) ⟨Nat.le_of_ble_eq_true rfl, Nat.le_of_ble_eq_true rfl⟩ ⟨Nat.le_of_ble_eq_true rfl, Nat.le_of_ble_eq_true rfl⟩ dX8_writeHours_65 rfl (fun H locs hP hS => ?_)
          refine lv_aload_n hx hb dX8_writeHours_68 rfl (lv_at hl 1 rfl) ?_
          refine lv_aload_n hx hb dX8_writeHours_69 rfl (lv_at hl 1 rfl) ?_
          refine lv_iload_n hx hb dX8_writeHours_70 rfl (lv_at hl 0 rfl) ?_
          refine lv_iconst (v := (5 : Int32)) hx hb dX8_writeHours_71 (by decide) ?_
          obtain ⟨x9, hx9, hf⟩ := ob_e hf
          refine zr_cVi (rest := [.ref (g.2.2 + 306)]) (As := [.int a1, .int (5 : Int32)]) X hP hS (ct_X8_of (g := g) (nc := nc) (I := I) (J := J8) (O := O) hnJ l  hx9) cw_X8_209 (zr_recv X hP (Nat.lt_of_lt_of_le (zk_306).2.1 hnJ) (zb_ceJo zk_306 (by decide)) rfl) rfl hl.1 (Nat.le_of_ble_eq_true rfl) ⟨Nat.le_of_ble_eq_true rfl, Nat.le_of_ble_eq_true rfl⟩ ⟨Nat.le_of_ble_eq_true rfl, Nat.le_of_ble_eq_true rfl⟩ dX8_writeHours_72 rfl (fun H locs hP hS => ?_)
          obtain ⟨J10, hJ10, hf⟩ := ob_e hf
          refine zr_cVv (rest := []) (As := [.int x9]) X hP hS (ct_X8_writesNumber (g := g) (nc := nc) (I := I) (J := J8) (O := O) hnJ l  hJ10) cw_X8_395 (zr_recv X hP (Nat.lt_of_lt_of_le (zk_306).2.1 hnJ) (zb_ceJo zk_306 (by decide)) rfl) rfl hl.1 (Nat.le_of_ble_eq_true rfl) ⟨Nat.le_of_ble_eq_true rfl, Nat.le_of_ble_eq_true rfl⟩ ⟨Nat.le_of_ble_eq_true rfl, Nat.le_of_ble_eq_true rfl⟩ dX8_writeHours_75 rfl (fun H locs hP hS => ?_)
          cases hf
          exact K2 H locs ls hP hS (lv_sub hl [0, 1] rfl)
        · have hf := if_t hc hf
          refine lv_aload_n hx hb dX8_writeHours_53 rfl (lv_at hl 1 rfl) ?_
          refine lv_bipush (v := (63 : Int32)) hx hb dX8_writeHours_54 (by decide) ?_
          obtain ⟨J11, hJ11, hf⟩ := ob_e hf
          refine zr_cVv (rest := []) (As := [.int (63 : Int32)]) X hP hS (ct_X8_writes (g := g) (nc := nc) (I := I) (J := J6) (O := O) hnJ l  hJ11) cw_X8_392 (zr_recv X hP (Nat.lt_of_lt_of_le (zk_306).2.1 hnJ) (zb_ceJo zk_306 (by decide)) rfl) rfl hl.1 (Nat.le_of_ble_eq_true rfl) ⟨Nat.le_of_ble_eq_true rfl, Nat.le_of_ble_eq_true rfl⟩ ⟨Nat.le_of_ble_eq_true rfl, Nat.le_of_ble_eq_true rfl⟩ dX8_writeHours_56 rfl (fun H locs hP hS => ?_)
          refine lv_goto (tgt := 78) hx hb dX8_writeHours_59 (by decide) ?_
          cases hf
          exact K2 H locs ls hP hS (lv_sub hl [0, 1] rfl)
      have hf := ht
      refine lv_icmp_le (tgt := 39) hx hb dX8_writeHours_30 (by decide) (fun hc => ?_) (fun hc => ?_)
      · have hf := if_t hc hf
        cases hf
        exact K1 H locs ls hP hS (lv_sub hl [0, 1] rfl)
      · have hf := if_f hc hf
        refine lv_aload_n hx hb dX8_writeHours_33 rfl (lv_at hl 1 rfl) ?_
        refine lv_bipush (v := (32 : Int32)) hx hb dX8_writeHours_34 (by decide) ?_
        obtain ⟨J4, hJ4, hf⟩ := ob_e hf
        refine zr_cVv (rest := []) (As := [.int (32 : Int32)]) X hP hS (ct_X8_writes (g := g) (nc := nc) (I := I) (J := J) (O := O) hnJ l  hJ4) cw_X8_392 (zr_recv X hP (Nat.lt_of_lt_of_le (zk_306).2.1 hnJ) (zb_ceJo zk_306 (by decide)) rfl) rfl hl.1 (Nat.le_of_ble_eq_true rfl) ⟨Nat.le_of_ble_eq_true rfl, Nat.le_of_ble_eq_true rfl⟩ ⟨Nat.le_of_ble_eq_true rfl, Nat.le_of_ble_eq_true rfl⟩ dX8_writeHours_36 rfl (fun H locs hP hS => ?_)
        cases hf
        exact K1 H locs ls hP hS (lv_sub hl [0, 1] rfl)
set_option maxHeartbeats 4000000 in
set_option maxRecDepth 100000 in
theorem ct_X8_writeHours {g : zb_G} {nc : Nat} (hnJ : 318 ≤ nc) (l : Launch) {I J O : Mem} {r9 : Int32} {Jq : Mem} (hf : fX8_writeHours J = some (r9, Jq)) : zb_Ct l g nc yX8_writeHours cX8_writeHours 2 (some .int) 2 44 [.ref (g.2.2 + 306)] (zb_ce g I J O) (some (.int r9)) (zb_ce g I Jq O) := by
  refine zb_ofW (own := RX8) (by decide +kernel) rfl (Nat.le_of_ble_eq_true rfl) ?_
  intro p e s m args below meth c ls X hr hP hl
  have hx := X.1.1
  have hb := X.1.2.1
  have ho := X.1.2.2.2.1
  have hts := X.1.2.2.2.2
  have hZ := X.2.2.2
  have hl : lv_has ls 2 [(0, .ref (g.2.2 + 306))] := hl
  have hS : va_S (zb_A g) s.heap s.heap [] := va_S.rf
  obtain ⟨H, hH⟩ : ∃ H, H = s.heap := ⟨_, rfl⟩
  obtain ⟨locs, hlocs⟩ : ∃ z : List Loc, z = [] := ⟨_, rfl⟩
  rw [← hH] at hP
  have hS : va_S (zb_A g) s.heap H locs := by rw [hH, hlocs]; exact hS
  show W p l e _ s m args below meth c s.heap [] 0 0 _ _
  rw [← hH, ← hlocs]
  rw [fX8_writeHours] at hf
  refine lv_aload_n hx hb dX8_writeHours_0 rfl (lv_at hl 0 rfl) ?_
  refine lv_iconst (v := (0 : Int32)) hx hb dX8_writeHours_1 (by decide) ?_
  refine pf_X8_57 X hnJ hP hS zk_306 dX8_writeHours_2 (fun H locs hP hS => ?_)
  refine lv_aload_n hx hb dX8_writeHours_5 rfl (lv_at hl 0 rfl) ?_
  refine lv_iconst (v := (0 : Int32)) hx hb dX8_writeHours_6 (by decide) ?_
  refine pf_X8_389 X hnJ hP hS zk_306 dX8_writeHours_7 (fun H locs hP hS => ?_)
  refine lv_aload_n hx hb dX8_writeHours_10 rfl (lv_at hl 0 rfl) ?_
  obtain ⟨x1, hx1, hf⟩ := ob_e hf
  refine zr_cVi (rest := []) (As := []) X hP hS (ct_X8_firstHour (g := g) (nc := nc) (I := I) (J := (wr (wr J 306 0 (0 : Int32)) 306 26 (0 : Int32))) (O := O) hnJ l  hx1) cw_X8_203 (zr_recv X hP (Nat.lt_of_lt_of_le (zk_306).2.1 hnJ) (zb_ceJo zk_306 (by decide)) rfl) rfl hl.1 (Nat.le_of_ble_eq_true rfl) ⟨Nat.le_of_ble_eq_true rfl, Nat.le_of_ble_eq_true rfl⟩ ⟨Nat.le_of_ble_eq_true rfl, Nat.le_of_ble_eq_true rfl⟩ dX8_writeHours_11 rfl (fun H locs hP hS => ?_)
  refine lv_istore_n (lv' := [(1, .int x1), (0, .ref (g.2.2 + 306))]) hx hb dX8_writeHours_14 rfl hl (by decide) rfl (fun ls hl => ?_)
  obtain ⟨J13, hJ13, hf⟩ := ob_e hf
  have K3 : ∀ (H : Heap) (locs : List Loc) (ls : Array Slot), va_P g.1 vwCl (zb_ws g nc (zb_ce g I J13 O)) H → va_S (zb_A g) s.heap H locs → lv_has ls 2 [(0, .ref (g.2.2 + 306))] → W p l e { frames := 2, cells := 0, slots := 0, locals := 44 } s m args below meth c H locs 0 0 (MQ below (zb_Po g nc (zb_ce g I Jq O) (some (.int r9))) args s 0 0 (zb_A g)) (F0 m 84 ls []) := by
    intro H locs ls hP hS hl
    refine lv_aload_n hx hb dX8_writeHours_84 rfl (lv_at hl 0 rfl) ?_
    refine gf_X8_389 X hnJ hP zk_306 dX8_writeHours_85 ?_
    cases hf
    exact zr_iret X hr hP hS dX8_writeHours_88
  exact lpX8_writeHours_L15 hnJ l  X hJ13 K3 hP hS (lv_sub hl [0, 1] rfl)
set_option maxHeartbeats 4000000 in
set_option maxRecDepth 100000 in
theorem ct_X8_output {g : zb_G} {nc : Nat} (hnJ : 318 ≤ nc) (l : Launch) {a1 : Int32} {I J O : Mem} {r9 : Int32} {Jq : Mem} (hf : fX8_output a1 J = some (r9, Jq)) : zb_Ct l g nc yX8_output cX8_output 2 (some .int) 1 22 [.ref (g.2.2 + 306), .int a1] (zb_ce g I J O) (some (.int r9)) (zb_ce g I Jq O) := by
  refine zb_ofW (own := RX8) (by decide +kernel) rfl (Nat.le_of_ble_eq_true rfl) ?_
  intro p e s m args below meth c ls X hr hP hl
  have hx := X.1.1
  have hb := X.1.2.1
  have ho := X.1.2.2.2.1
  have hts := X.1.2.2.2.2
  have hZ := X.2.2.2
  have hl : lv_has ls 2 [(0, .ref (g.2.2 + 306)), (1, .int a1)] := hl
  have hS : va_S (zb_A g) s.heap s.heap [] := va_S.rf
  obtain ⟨H, hH⟩ : ∃ H, H = s.heap := ⟨_, rfl⟩
  obtain ⟨locs, hlocs⟩ : ∃ z : List Loc, z = [] := ⟨_, rfl⟩
  rw [← hH] at hP
  have hS : va_S (zb_A g) s.heap H locs := by rw [hH, hlocs]; exact hS
  show W p l e _ s m args below meth c s.heap [] 0 0 _ _
  rw [← hH, ← hlocs]
  rw [fX8_output] at hf
  refine lv_aload_n hx hb dX8_output_0 rfl (lv_at hl 0 rfl) ?_
  refine lv_iconst (v := (0 : Int32)) hx hb dX8_output_1 (by decide) ?_
  refine pf_X8_57 X hnJ hP hS zk_306 dX8_output_2 (fun H locs hP hS => ?_)
  refine lv_aload_n hx hb dX8_output_5 rfl (lv_at hl 0 rfl) ?_
  refine lv_iload_n hx hb dX8_output_6 rfl (lv_at hl 1 rfl) ?_
  refine lv_iconst (v := (0 : Int32)) hx hb dX8_output_7 (by decide) ?_
  refine lv_aload_n hx hb dX8_output_8 rfl (lv_at hl 0 rfl) ?_
  refine gf_X8_389 X hnJ hP zk_306 dX8_output_9 ?_
  refine lv_iconst (v := (1 : Int32)) hx hb dX8_output_12 (by decide) ?_
  refine lv_isub hx hb dX8_output_13 ?_
  obtain ⟨x1, hx1, hf⟩ := ob_e hf
  refine zr_cSi (rest := [.ref (g.2.2 + 306)]) (As := [.int a1, .int (0 : Int32), .int (((wr J 306 0 (0 : Int32)) 306 26) - (1 : Int32))]) X hP hS (ct_X8_within (g := g) (nc := nc) (I := I) (J := (wr J 306 0 (0 : Int32))) (O := O)  l  hx1) cw_X8_60  rfl hl.1 (Nat.le_of_ble_eq_true rfl) ⟨Nat.le_of_ble_eq_true rfl, Nat.le_of_ble_eq_true rfl⟩ ⟨Nat.le_of_ble_eq_true rfl, Nat.le_of_ble_eq_true rfl⟩ dX8_output_14 rfl (fun H locs hP hS => ?_)
  obtain ⟨x2, ht, hf⟩ := pl_e hf
  have K1 : ∀ (H : Heap) (locs : List Loc) (ls : Array Slot), va_P g.1 vwCl (zb_ws g nc (zb_ce g I (wr J 306 0 (0 : Int32)) O)) H → va_S (zb_A g) s.heap H locs → lv_has ls 2 [(0, .ref (g.2.2 + 306)), (1, .int a1)] → W p l e { frames := 1, cells := 0, slots := 0, locals := 22 } s m args below meth c H locs 0 0 (MQ below (zb_Po g nc (zb_ce g I Jq O) (some (.int r9))) args s 0 0 (zb_A g)) (F0 m 25 ls [.int x2, .ref (g.2.2 + 306)]) := by
    intro H locs ls hP hS hl
    refine lv_iconst (v := (1 : Int32)) hx hb dX8_output_25 (by decide) ?_
    obtain ⟨x3, J4, hx3_J4, hf⟩ := ob2_e hf
    refine zr_cVi (rest := []) (As := [.int x2, .int (1 : Int32)]) X hP hS (ct_X8_throwsIf (g := g) (nc := nc) (I := I) (J := (wr J 306 0 (0 : Int32))) (O := O) hnJ l  hx3_J4) cw_X8_64 (zr_recv X hP (Nat.lt_of_lt_of_le (zk_306).2.1 hnJ) (zb_ceJo zk_306 (by decide)) rfl) rfl hl.1 (Nat.le_of_ble_eq_true rfl) ⟨Nat.le_of_ble_eq_true rfl, Nat.le_of_ble_eq_true rfl⟩ ⟨Nat.le_of_ble_eq_true rfl, Nat.le_of_ble_eq_true rfl⟩ dX8_output_26 rfl (fun H locs hP hS => ?_)
    obtain ⟨x6, ht, hf⟩ := ob_e hf
    have K2 : ∀ (H : Heap) (locs : List Loc) (ls : Array Slot), va_P g.1 vwCl (zb_ws g nc (zb_ce g I J4 O)) H → va_S (zb_A g) s.heap H locs → lv_has ls 2 [] → W p l e { frames := 1, cells := 0, slots := 0, locals := 22 } s m args below meth c H locs 0 0 (MQ below (zb_Po g nc (zb_ce g I Jq O) (some (.int r9))) args s 0 0 (zb_A g)) (F0 m 42 ls [.int x6]) := by
      intro H locs ls hP hS hl
      cases hf
      exact zr_iret X hr hP hS dX8_output_42
    have hf := ht
    refine lv_if_eq (tgt := 36) hx hb dX8_output_29 (by decide) (fun hc => ?_) (fun hc => ?_)
    · have hf := if_t hc hf
      refine lv_aload_n hx hb dX8_output_36 rfl (lv_at hl 0 rfl) ?_
      refine gf_X8_46 X hnJ hP zk_306 dX8_output_37 ?_
      refine lv_iload_n hx hb dX8_output_40 rfl (lv_at hl 1 rfl) ?_
      obtain ⟨x5, hx5, hf⟩ := ob_e hf
      refine zr_aldJ X hP hnJ zk_317 hx5 dX8_output_41 ?_
      cases hf
      exact K2 H locs ls hP hS (lv_sub hl [] rfl)
    · have hf := if_f hc hf
      refine lv_iconst (v := (0 : Int32)) hx hb dX8_output_32 (by decide) ?_
      refine lv_goto (tgt := 42) hx hb dX8_output_33 (by decide) ?_
      cases hf
      exact K2 H locs ls hP hS (lv_sub hl [] rfl)
  have hf := ht
  refine lv_if_ne (tgt := 24) hx hb dX8_output_17 (by decide) (fun hc => ?_) (fun hc => ?_)
  · have hf := if_f hc hf
    refine lv_iconst (v := (0 : Int32)) hx hb dX8_output_24 (by decide) ?_
    cases hf
    exact K1 H locs ls hP hS (lv_sub hl [0, 1] rfl)
  · have hf := if_t hc hf
    refine lv_iconst (v := (1 : Int32)) hx hb dX8_output_20 (by decide) ?_
    refine lv_goto (tgt := 25) hx hb dX8_output_21 (by decide) ?_
    cases hf
    exact K1 H locs ls hP hS (lv_sub hl [0, 1] rfl)
set_option maxHeartbeats 4000000 in
set_option maxRecDepth 100000 in
theorem ct_X8_undo {g : zb_G} {nc : Nat} (hnJ : 318 ≤ nc) (l : Launch) {I J O : Mem} {r9 : Int32} {Jq : Mem} (hf : fX8_undo J = some (r9, Jq)) : zb_Ct l g nc yX8_undo cX8_undo 1 (some .int) 1 24 [.ref (g.2.2 + 306)] (zb_ce g I J O) (some (.int r9)) (zb_ce g I Jq O) := by
  refine zb_ofW (own := RX8) (by decide +kernel) rfl (Nat.le_of_ble_eq_true rfl) ?_
  intro p e s m args below meth c ls X hr hP hl
  have hx := X.1.1
  have hb := X.1.2.1
  have ho := X.1.2.2.2.1
  have hts := X.1.2.2.2.2
  have hZ := X.2.2.2
  have hl : lv_has ls 1 [(0, .ref (g.2.2 + 306))] := hl
  have hS : va_S (zb_A g) s.heap s.heap [] := va_S.rf
  obtain ⟨H, hH⟩ : ∃ H, H = s.heap := ⟨_, rfl⟩
  obtain ⟨locs, hlocs⟩ : ∃ z : List Loc, z = [] := ⟨_, rfl⟩
  rw [← hH] at hP
  have hS : va_S (zb_A g) s.heap H locs := by rw [hH, hlocs]; exact hS
  show W p l e _ s m args below meth c s.heap [] 0 0 _ _
  rw [← hH, ← hlocs]
  rw [fX8_undo] at hf
  refine lv_aload_n hx hb dX8_undo_0 rfl (lv_at hl 0 rfl) ?_
  refine lv_iconst (v := (0 : Int32)) hx hb dX8_undo_1 (by decide) ?_
  refine pf_X8_57 X hnJ hP hS zk_306 dX8_undo_2 (fun H locs hP hS => ?_)
  refine lv_aload_n hx hb dX8_undo_5 rfl (lv_at hl 0 rfl) ?_
  refine lv_aload_n hx hb dX8_undo_6 rfl (lv_at hl 0 rfl) ?_
  refine gf_X8_173 X hnJ hP zk_306 dX8_undo_7 ?_
  obtain ⟨x1, ht, hf⟩ := pl_e hf
  have K1 : ∀ (H : Heap) (locs : List Loc) (ls : Array Slot), va_P g.1 vwCl (zb_ws g nc (zb_ce g I (wr J 306 0 (0 : Int32)) O)) H → va_S (zb_A g) s.heap H locs → lv_has ls 1 [(0, .ref (g.2.2 + 306))] → W p l e { frames := 1, cells := 0, slots := 0, locals := 24 } s m args below meth c H locs 0 0 (MQ below (zb_Po g nc (zb_ce g I Jq O) (some (.int r9))) args s 0 0 (zb_A g)) (F0 m 18 ls [.int x1, .ref (g.2.2 + 306)]) := by
    intro H locs ls hP hS hl
    refine lv_iconst (v := (1 : Int32)) hx hb dX8_undo_18 (by decide) ?_
    obtain ⟨x2, J3, hx2_J3, hf⟩ := ob2_e hf
    refine zr_cVi (rest := []) (As := [.int x1, .int (1 : Int32)]) X hP hS (ct_X8_throwsIf (g := g) (nc := nc) (I := I) (J := (wr J 306 0 (0 : Int32))) (O := O) hnJ l  hx2_J3) cw_X8_64 (zr_recv X hP (Nat.lt_of_lt_of_le (zk_306).2.1 hnJ) (zb_ceJo zk_306 (by decide)) rfl) rfl hl.1 (Nat.le_of_ble_eq_true rfl) ⟨Nat.le_of_ble_eq_true rfl, Nat.le_of_ble_eq_true rfl⟩ ⟨Nat.le_of_ble_eq_true rfl, Nat.le_of_ble_eq_true rfl⟩ dX8_undo_19 rfl (fun H locs hP hS => ?_)
    refine lv_if_eq (tgt := 27) hx hb dX8_undo_22 (by decide) (fun hc => ?_) (fun hc => ?_)
    · have hf := if_t hc hf
      refine lv_aload_n hx hb dX8_undo_27 rfl (lv_at hl 0 rfl) ?_
      refine lv_dup hx hb dX8_undo_28 rfl ?_
      refine gf_X8_173 X hnJ hP zk_306 dX8_undo_29 ?_
      refine lv_iconst (v := (1 : Int32)) hx hb dX8_undo_32 (by decide) ?_
      refine lv_isub hx hb dX8_undo_33 ?_
      refine pf_X8_173 X hnJ hP hS zk_306 dX8_undo_34 (fun H locs hP hS => ?_)
      refine lv_aload_n hx hb dX8_undo_37 rfl (lv_at hl 0 rfl) ?_
      refine gf_X8_19 X hnJ hP zk_306 dX8_undo_38 ?_
      refine lv_sipush (v := (574 : Int32)) hx hb dX8_undo_41 (by decide) ?_
      refine lv_aload_n hx hb dX8_undo_44 rfl (lv_at hl 0 rfl) ?_
      refine gf_X8_173 X hnJ hP zk_306 dX8_undo_45 ?_
      refine lv_imul hx hb dX8_undo_48 ?_
      refine lv_aload_n hx hb dX8_undo_49 rfl (lv_at hl 0 rfl) ?_
      refine gf_X8_7 X hnJ hP zk_306 dX8_undo_50 ?_
      refine lv_iconst (v := (0 : Int32)) hx hb dX8_undo_53 (by decide) ?_
      obtain ⟨J4, hJ4, hf⟩ := ob_e hf
      refine zr_cSv (rest := []) (As := [.ref (g.2.2 + 310), .int ((574 : Int32) * ((wr J3 306 8 ((J3 306 8) - (1 : Int32))) 306 8)), .ref (g.2.2 + 307), .int (0 : Int32)]) X hP hS (ct_X8_copies (g := g) (nc := nc) (I := I) (J := (wr J3 306 8 ((J3 306 8) - (1 : Int32)))) (O := O) hnJ l zk_310 zk_307 hJ4) cw_X8_169  rfl hl.1 (Nat.le_of_ble_eq_true rfl) ⟨Nat.le_of_ble_eq_true rfl, Nat.le_of_ble_eq_true rfl⟩ ⟨Nat.le_of_ble_eq_true rfl, Nat.le_of_ble_eq_true rfl⟩ dX8_undo_54 rfl (fun H locs hP hS => ?_)
      refine lv_aload_n hx hb dX8_undo_57 rfl (lv_at hl 0 rfl) ?_
      refine gf_X8_173 X hnJ hP zk_306 dX8_undo_58 ?_
      cases hf
      exact zr_iret X hr hP hS dX8_undo_61
    · have hf := if_f hc hf
      refine lv_iconst (v := (0 : Int32)) hx hb dX8_undo_25 (by decide) ?_
      cases hf
      exact zr_iret X hr hP hS dX8_undo_26
  have hf := ht
  refine lv_if_ne (tgt := 17) hx hb dX8_undo_10 (by decide) (fun hc => ?_) (fun hc => ?_)
  · have hf := if_f hc hf
    refine lv_iconst (v := (0 : Int32)) hx hb dX8_undo_17 (by decide) ?_
    cases hf
    exact K1 H locs ls hP hS (lv_sub hl [0] rfl)
  · have hf := if_t hc hf
    refine lv_iconst (v := (1 : Int32)) hx hb dX8_undo_13 (by decide) ?_
    refine lv_goto (tgt := 18) hx hb dX8_undo_14 (by decide) ?_
    cases hf
    exact K1 H locs ls hP hS (lv_sub hl [0] rfl)
set_option maxHeartbeats 4000000 in
set_option maxRecDepth 100000 in
theorem ct_X8_noSlot {g : zb_G} {nc : Nat} (hnJ : 318 ≤ nc) (l : Launch) {a1 : Int32} {I J O : Mem} {r9 : Int32} {Jq : Mem} (hf : fX8_noSlot a1 J = some (r9, Jq)) : zb_Ct l g nc yX8_noSlot cX8_noSlot 2 (some .boolean) 1 22 [.ref (g.2.2 + 306), .int a1] (zb_ce g I J O) (some (.int r9)) (zb_ce g I Jq O) := by
  refine zb_ofW (own := RX8) (by decide +kernel) rfl (Nat.le_of_ble_eq_true rfl) ?_
  intro p e s m args below meth c ls X hr hP hl
  have hx := X.1.1
  have hb := X.1.2.1
  have ho := X.1.2.2.2.1
  have hts := X.1.2.2.2.2
  have hZ := X.2.2.2
  have hl : lv_has ls 2 [(0, .ref (g.2.2 + 306)), (1, .int a1)] := hl
  have hS : va_S (zb_A g) s.heap s.heap [] := va_S.rf
  obtain ⟨H, hH⟩ : ∃ H, H = s.heap := ⟨_, rfl⟩
  obtain ⟨locs, hlocs⟩ : ∃ z : List Loc, z = [] := ⟨_, rfl⟩
  rw [← hH] at hP
  have hS : va_S (zb_A g) s.heap H locs := by rw [hH, hlocs]; exact hS
  show W p l e _ s m args below meth c s.heap [] 0 0 _ _
  rw [← hH, ← hlocs]
  rw [fX8_noSlot] at hf
  refine lv_aload_n hx hb dX8_noSlot_0 rfl (lv_at hl 0 rfl) ?_
  refine lv_iconst (v := (0 : Int32)) hx hb dX8_noSlot_1 (by decide) ?_
  refine pf_X8_57 X hnJ hP hS zk_306 dX8_noSlot_2 (fun H locs hP hS => ?_)
  refine lv_aload_n hx hb dX8_noSlot_5 rfl (lv_at hl 0 rfl) ?_
  refine lv_iload_n hx hb dX8_noSlot_6 rfl (lv_at hl 1 rfl) ?_
  refine lv_iconst (v := (0 : Int32)) hx hb dX8_noSlot_7 (by decide) ?_
  refine lv_iconst (v := (1 : Int32)) hx hb dX8_noSlot_8 (by decide) ?_
  obtain ⟨x1, hx1, hf⟩ := ob_e hf
  refine zr_cSi (rest := [.ref (g.2.2 + 306)]) (As := [.int a1, .int (0 : Int32), .int (1 : Int32)]) X hP hS (ct_X8_within (g := g) (nc := nc) (I := I) (J := (wr J 306 0 (0 : Int32))) (O := O)  l  hx1) cw_X8_60  rfl hl.1 (Nat.le_of_ble_eq_true rfl) ⟨Nat.le_of_ble_eq_true rfl, Nat.le_of_ble_eq_true rfl⟩ ⟨Nat.le_of_ble_eq_true rfl, Nat.le_of_ble_eq_true rfl⟩ dX8_noSlot_9 rfl (fun H locs hP hS => ?_)
  obtain ⟨x2, ht, hf⟩ := pl_e hf
  have K1 : ∀ (H : Heap) (locs : List Loc) (ls : Array Slot), va_P g.1 vwCl (zb_ws g nc (zb_ce g I (wr J 306 0 (0 : Int32)) O)) H → va_S (zb_A g) s.heap H locs → lv_has ls 2 [] → W p l e { frames := 1, cells := 0, slots := 0, locals := 22 } s m args below meth c H locs 0 0 (MQ below (zb_Po g nc (zb_ce g I Jq O) (some (.int r9))) args s 0 0 (zb_A g)) (F0 m 20 ls [.int x2, .ref (g.2.2 + 306)]) := by
    intro H locs ls hP hS hl
    refine lv_iconst (v := (1 : Int32)) hx hb dX8_noSlot_20 (by decide) ?_
    obtain ⟨x3, J4, hx3_J4, hf⟩ := ob2_e hf
    refine zr_cVi (rest := []) (As := [.int x2, .int (1 : Int32)]) X hP hS (ct_X8_throwsIf (g := g) (nc := nc) (I := I) (J := (wr J 306 0 (0 : Int32))) (O := O) hnJ l  hx3_J4) cw_X8_64 (zr_recv X hP (Nat.lt_of_lt_of_le (zk_306).2.1 hnJ) (zb_ceJo zk_306 (by decide)) rfl) rfl hl.1 (Nat.le_of_ble_eq_true rfl) ⟨Nat.le_of_ble_eq_true rfl, Nat.le_of_ble_eq_true rfl⟩ ⟨Nat.le_of_ble_eq_true rfl, Nat.le_of_ble_eq_true rfl⟩ dX8_noSlot_21 rfl (fun H locs hP hS => ?_)
    obtain ⟨v9, hv9, hf⟩ := ob_e hf
    obtain ⟨hn9, he9⟩ := zbo_e hv9
    cases hf
    cases he9
    exact zr_zret X hr hn9 hP hS dX8_noSlot_24
  have hf := ht
  refine lv_if_ne (tgt := 19) hx hb dX8_noSlot_12 (by decide) (fun hc => ?_) (fun hc => ?_)
  · have hf := if_f hc hf
    refine lv_iconst (v := (0 : Int32)) hx hb dX8_noSlot_19 (by decide) ?_
    cases hf
    exact K1 H locs ls hP hS (lv_sub hl [] rfl)
  · have hf := if_t hc hf
    refine lv_iconst (v := (1 : Int32)) hx hb dX8_noSlot_15 (by decide) ?_
    refine lv_goto (tgt := 20) hx hb dX8_noSlot_16 (by decide) ?_
    cases hf
    exact K1 H locs ls hP hS (lv_sub hl [] rfl)
set_option maxHeartbeats 4000000 in
set_option maxRecDepth 100000 in
theorem ct_X8_save {g : zb_G} {nc : Nat} (hnJ : 318 ≤ nc) (l : Launch) {a1 : Int32} {I J O : Mem} {r9 : Int32} {Jq : Mem} (hf : fX8_save a1 J = some (r9, Jq)) : zb_Ct l g nc yX8_save cX8_save 2 (some .int) 2 43 [.ref (g.2.2 + 306), .int a1] (zb_ce g I J O) (some (.int r9)) (zb_ce g I Jq O) := by
  refine zb_ofW (own := RX8) (by decide +kernel) rfl (Nat.le_of_ble_eq_true rfl) ?_
  intro p e s m args below meth c ls X hr hP hl
  have hx := X.1.1
  have hb := X.1.2.1
  have ho := X.1.2.2.2.1
  have hts := X.1.2.2.2.2
  have hZ := X.2.2.2
  have hl : lv_has ls 2 [(0, .ref (g.2.2 + 306)), (1, .int a1)] := hl
  have hS : va_S (zb_A g) s.heap s.heap [] := va_S.rf
  obtain ⟨H, hH⟩ : ∃ H, H = s.heap := ⟨_, rfl⟩
  obtain ⟨locs, hlocs⟩ : ∃ z : List Loc, z = [] := ⟨_, rfl⟩
  rw [← hH] at hP
  have hS : va_S (zb_A g) s.heap H locs := by rw [hH, hlocs]; exact hS
  show W p l e _ s m args below meth c s.heap [] 0 0 _ _
  rw [← hH, ← hlocs]
  rw [fX8_save] at hf
  refine lv_aload_n hx hb dX8_save_0 rfl (lv_at hl 0 rfl) ?_
  refine lv_iload_n hx hb dX8_save_1 rfl (lv_at hl 1 rfl) ?_
  obtain ⟨x1, J2, hx1_J2, hf⟩ := ob2_e hf
  refine zr_cVi (rest := []) (As := [.int a1]) X hP hS (ct_X8_noSlot (g := g) (nc := nc) (I := I) (J := J) (O := O) hnJ l  hx1_J2) cw_X8_398 (zr_recv X hP (Nat.lt_of_lt_of_le (zk_306).2.1 hnJ) (zb_ceJo zk_306 (by decide)) rfl) rfl hl.1 (Nat.le_of_ble_eq_true rfl) ⟨Nat.le_of_ble_eq_true rfl, Nat.le_of_ble_eq_true rfl⟩ ⟨Nat.le_of_ble_eq_true rfl, Nat.le_of_ble_eq_true rfl⟩ dX8_save_2 rfl (fun H locs hP hS => ?_)
  refine lv_if_eq (tgt := 10) hx hb dX8_save_5 (by decide) (fun hc => ?_) (fun hc => ?_)
  · have hf := if_t hc hf
    refine lv_aload_n hx hb dX8_save_10 rfl (lv_at hl 0 rfl) ?_
    refine gf_X8_7 X hnJ hP zk_306 dX8_save_11 ?_
    refine lv_iconst (v := (0 : Int32)) hx hb dX8_save_14 (by decide) ?_
    refine lv_aload_n hx hb dX8_save_15 rfl (lv_at hl 0 rfl) ?_
    refine gf_X8_22 X hnJ hP zk_306 dX8_save_16 ?_
    refine lv_sipush (v := (574 : Int32)) hx hb dX8_save_19 (by decide) ?_
    refine lv_iload_n hx hb dX8_save_22 rfl (lv_at hl 1 rfl) ?_
    refine lv_imul hx hb dX8_save_23 ?_
    obtain ⟨J3, hJ3, hf⟩ := ob_e hf
    refine zr_cSv (rest := []) (As := [.ref (g.2.2 + 307), .int (0 : Int32), .ref (g.2.2 + 311), .int ((574 : Int32) * a1)]) X hP hS (ct_X8_copies (g := g) (nc := nc) (I := I) (J := J2) (O := O) hnJ l zk_307 zk_311 hJ3) cw_X8_169  rfl hl.1 (Nat.le_of_ble_eq_true rfl) ⟨Nat.le_of_ble_eq_true rfl, Nat.le_of_ble_eq_true rfl⟩ ⟨Nat.le_of_ble_eq_true rfl, Nat.le_of_ble_eq_true rfl⟩ dX8_save_24 rfl (fun H locs hP hS => ?_)
    refine lv_aload_n hx hb dX8_save_27 rfl (lv_at hl 0 rfl) ?_
    refine gf_X8_25 X hnJ hP zk_306 dX8_save_28 ?_
    refine lv_iload_n hx hb dX8_save_31 rfl (lv_at hl 1 rfl) ?_
    refine lv_iconst (v := (1 : Int32)) hx hb dX8_save_32 (by decide) ?_
    obtain ⟨J4, hJ4, hf⟩ := ob_e hf
    refine zr_zastJ X hP hS hnJ zk_312 hJ4 dX8_save_33 (fun H locs hP hS => ?_)
    refine lv_aload_n hx hb dX8_save_34 rfl (lv_at hl 0 rfl) ?_
    refine gf_X8_7 X hnJ hP zk_306 dX8_save_35 ?_
    refine lv_iconst (v := (5 : Int32)) hx hb dX8_save_38 (by decide) ?_
    obtain ⟨x5, hx5, hf⟩ := ob_e hf
    refine zr_aldJ X hP hnJ zk_307 hx5 dX8_save_39 ?_
    cases hf
    exact zr_iret X hr hP hS dX8_save_40
  · have hf := if_f hc hf
    refine lv_iconst (v := (0 : Int32)) hx hb dX8_save_8 (by decide) ?_
    cases hf
    exact zr_iret X hr hP hS dX8_save_9
set_option maxHeartbeats 4000000 in
set_option maxRecDepth 100000 in
theorem ct_X8_restore {g : zb_G} {nc : Nat} (hnJ : 318 ≤ nc) (l : Launch) {a1 : Int32} {I J O : Mem} {r9 : Int32} {Jq : Mem} (hf : fX8_restore a1 J = some (r9, Jq)) : zb_Ct l g nc yX8_restore cX8_restore 2 (some .int) 2 43 [.ref (g.2.2 + 306), .int a1] (zb_ce g I J O) (some (.int r9)) (zb_ce g I Jq O) := by
  refine zb_ofW (own := RX8) (by decide +kernel) rfl (Nat.le_of_ble_eq_true rfl) ?_
  intro p e s m args below meth c ls X hr hP hl
  have hx := X.1.1
  have hb := X.1.2.1
  have ho := X.1.2.2.2.1
  have hts := X.1.2.2.2.2
  have hZ := X.2.2.2
  have hl : lv_has ls 2 [(0, .ref (g.2.2 + 306)), (1, .int a1)] := hl
  have hS : va_S (zb_A g) s.heap s.heap [] := va_S.rf
  obtain ⟨H, hH⟩ : ∃ H, H = s.heap := ⟨_, rfl⟩
  obtain ⟨locs, hlocs⟩ : ∃ z : List Loc, z = [] := ⟨_, rfl⟩
  rw [← hH] at hP
  have hS : va_S (zb_A g) s.heap H locs := by rw [hH, hlocs]; exact hS
  show W p l e _ s m args below meth c s.heap [] 0 0 _ _
  rw [← hH, ← hlocs]
  rw [fX8_restore] at hf
  refine lv_aload_n hx hb dX8_restore_0 rfl (lv_at hl 0 rfl) ?_
  refine lv_iload_n hx hb dX8_restore_1 rfl (lv_at hl 1 rfl) ?_
  obtain ⟨x1, J2, hx1_J2, hf⟩ := ob2_e hf
  refine zr_cVi (rest := []) (As := [.int a1]) X hP hS (ct_X8_noSlot (g := g) (nc := nc) (I := I) (J := J) (O := O) hnJ l  hx1_J2) cw_X8_398 (zr_recv X hP (Nat.lt_of_lt_of_le (zk_306).2.1 hnJ) (zb_ceJo zk_306 (by decide)) rfl) rfl hl.1 (Nat.le_of_ble_eq_true rfl) ⟨Nat.le_of_ble_eq_true rfl, Nat.le_of_ble_eq_true rfl⟩ ⟨Nat.le_of_ble_eq_true rfl, Nat.le_of_ble_eq_true rfl⟩ dX8_restore_2 rfl (fun H locs hP hS => ?_)
  refine lv_if_ne (tgt := 30) hx hb dX8_restore_5 (by decide) (fun hc => ?_) (fun hc => ?_)
  · have hf := if_f hc hf
    refine lv_iconst (v := (0 : Int32)) hx hb dX8_restore_30 (by decide) ?_
    cases hf
    exact zr_iret X hr hP hS dX8_restore_31
  · have hf := if_t hc hf
    refine lv_aload_n hx hb dX8_restore_8 rfl (lv_at hl 0 rfl) ?_
    refine lv_aload_n hx hb dX8_restore_9 rfl (lv_at hl 0 rfl) ?_
    refine gf_X8_25 X hnJ hP zk_306 dX8_restore_10 ?_
    refine lv_iload_n hx hb dX8_restore_13 rfl (lv_at hl 1 rfl) ?_
    obtain ⟨x3, hx3, hf⟩ := ob_e hf
    refine zr_zaldJ X hP hnJ zk_312 hx3 dX8_restore_14 ?_
    obtain ⟨x4, ht, hf⟩ := pl_e hf
    have K1 : ∀ (H : Heap) (locs : List Loc) (ls : Array Slot), va_P g.1 vwCl (zb_ws g nc (zb_ce g I J2 O)) H → va_S (zb_A g) s.heap H locs → lv_has ls 2 [(0, .ref (g.2.2 + 306)), (1, .int a1)] → W p l e { frames := 2, cells := 0, slots := 0, locals := 43 } s m args below meth c H locs 0 0 (MQ below (zb_Po g nc (zb_ce g I Jq O) (some (.int r9))) args s 0 0 (zb_A g)) (F0 m 23 ls [.int x4, .ref (g.2.2 + 306)]) := by
      intro H locs ls hP hS hl
      refine lv_iconst (v := (2 : Int32)) hx hb dX8_restore_23 (by decide) ?_
      obtain ⟨x5, J6, hx5_J6, hf⟩ := ob2_e hf
      refine zr_cVi (rest := []) (As := [.int x4, .int (2 : Int32)]) X hP hS (ct_X8_throwsIf (g := g) (nc := nc) (I := I) (J := J2) (O := O) hnJ l  hx5_J6) cw_X8_64 (zr_recv X hP (Nat.lt_of_lt_of_le (zk_306).2.1 hnJ) (zb_ceJo zk_306 (by decide)) rfl) rfl hl.1 (Nat.le_of_ble_eq_true rfl) ⟨Nat.le_of_ble_eq_true rfl, Nat.le_of_ble_eq_true rfl⟩ ⟨Nat.le_of_ble_eq_true rfl, Nat.le_of_ble_eq_true rfl⟩ dX8_restore_24 rfl (fun H locs hP hS => ?_)
      refine lv_if_eq (tgt := 32) hx hb dX8_restore_27 (by decide) (fun hc => ?_) (fun hc => ?_)
      · have hf := if_t hc hf
        refine lv_aload_n hx hb dX8_restore_32 rfl (lv_at hl 0 rfl) ?_
        refine gf_X8_22 X hnJ hP zk_306 dX8_restore_33 ?_
        refine lv_sipush (v := (574 : Int32)) hx hb dX8_restore_36 (by decide) ?_
        refine lv_iload_n hx hb dX8_restore_39 rfl (lv_at hl 1 rfl) ?_
        refine lv_imul hx hb dX8_restore_40 ?_
        refine lv_aload_n hx hb dX8_restore_41 rfl (lv_at hl 0 rfl) ?_
        refine gf_X8_7 X hnJ hP zk_306 dX8_restore_42 ?_
        refine lv_iconst (v := (0 : Int32)) hx hb dX8_restore_45 (by decide) ?_
        obtain ⟨J7, hJ7, hf⟩ := ob_e hf
        refine zr_cSv (rest := []) (As := [.ref (g.2.2 + 311), .int ((574 : Int32) * a1), .ref (g.2.2 + 307), .int (0 : Int32)]) X hP hS (ct_X8_copies (g := g) (nc := nc) (I := I) (J := J6) (O := O) hnJ l zk_311 zk_307 hJ7) cw_X8_169  rfl hl.1 (Nat.le_of_ble_eq_true rfl) ⟨Nat.le_of_ble_eq_true rfl, Nat.le_of_ble_eq_true rfl⟩ ⟨Nat.le_of_ble_eq_true rfl, Nat.le_of_ble_eq_true rfl⟩ dX8_restore_46 rfl (fun H locs hP hS => ?_)
        refine lv_aload_n hx hb dX8_restore_49 rfl (lv_at hl 0 rfl) ?_
        refine lv_iconst (v := (0 : Int32)) hx hb dX8_restore_50 (by decide) ?_
        refine pf_X8_173 X hnJ hP hS zk_306 dX8_restore_51 (fun H locs hP hS => ?_)
        refine lv_aload_n hx hb dX8_restore_54 rfl (lv_at hl 0 rfl) ?_
        refine gf_X8_7 X hnJ hP zk_306 dX8_restore_55 ?_
        refine lv_iconst (v := (0 : Int32)) hx hb dX8_restore_58 (by decide) ?_
        obtain ⟨x8, hx8, hf⟩ := ob_e hf
        refine zr_aldJ X hP hnJ zk_307 hx8 dX8_restore_59 ?_
        cases hf
        exact zr_iret X hr hP hS dX8_restore_60
      · have hf := if_f hc hf
        refine lv_iconst (v := (0 : Int32)) hx hb dX8_restore_30 (by decide) ?_
        cases hf
        exact zr_iret X hr hP hS dX8_restore_31
    have hf := ht
    refine lv_if_ne (tgt := 22) hx hb dX8_restore_15 (by decide) (fun hc => ?_) (fun hc => ?_)
    · have hf := if_f hc hf
      refine lv_iconst (v := (0 : Int32)) hx hb dX8_restore_22 (by decide) ?_
      cases hf
      exact K1 H locs ls hP hS (lv_sub hl [0, 1] rfl)
    · have hf := if_t hc hf
      refine lv_iconst (v := (1 : Int32)) hx hb dX8_restore_18 (by decide) ?_
      refine lv_goto (tgt := 23) hx hb dX8_restore_19 (by decide) ?_
      cases hf
      exact K1 H locs ls hP hS (lv_sub hl [0, 1] rfl)
