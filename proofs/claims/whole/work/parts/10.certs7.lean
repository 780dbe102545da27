set_option maxHeartbeats 4000000 in
set_option maxRecDepth 100000 in
theorem lpX8_writeString_L12 {g : zb_G} {nc : Nat} (hnJ : 318 ≤ nc) (l : Launch) {I O : Mem} {p : Program} {e : Env} {s : State} {m : MethodId} {args : Array Value} {below : List Frame} {meth : Method} {c : Code} {Q : State → Prop} (X : zb_X g p m c cX8_writeString 2 s args RX8 meth) : ∀ {n9 : Nat} {a1 : Int32} {J : Mem} {Jz : Mem} {H : Heap} {locs : List Loc} {ls : Array Slot}, fX8_writeString_L12 n9 a1 J = some Jz → (∀ (H : Heap) (locs : List Loc) (ls : Array Slot), va_P g.1 vwCl (zb_ws g nc (zb_ce g I Jz O)) H → va_S (zb_A g) s.heap H locs → lv_has ls 2 [(0, .ref (g.2.2 + 306))] → W p l e { frames := 2, cells := 0, slots := 0, locals := 44 } s m args below meth c H locs 0 0 Q (F0 m 110 ls [])) → va_P g.1 vwCl (zb_ws g nc (zb_ce g I J O)) H → va_S (zb_A g) s.heap H locs → lv_has ls 2 [(1, .int a1), (0, .ref (g.2.2 + 306))] → W p l e { frames := 2, cells := 0, slots := 0, locals := 44 } s m args below meth c H locs 0 0 Q (F0 m 12 ls []) := by
  have hx := X.1.1
  have hb := X.1.2.1
  have ho := X.1.2.2.2.1
  have hts := X.1.2.2.2.2
  have hZ := X.2.2.2
  intro n9
  induction n9 with
  | zero =>
    intro a1 J Jz H locs ls hf
    exact nomatch hf
  | succ n9 ih =>
    intro a1 J Jz H locs ls hf KK hP hS hl
    rw [fX8_writeString_L12] at hf
    refine lv_iload_n hx hb dX8_writeString_12 rfl (lv_at hl 0 rfl) ?_
    refine lv_aload_n hx hb dX8_writeString_13 rfl (lv_at hl 1 rfl) ?_
    refine gf_X8_7 X hnJ hP zk_306 dX8_writeString_14 ?_
    refine lv_iconst (v := (0 : Int32)) hx hb dX8_writeString_17 (by decide) ?_
    obtain ⟨x1, hx1, hf⟩ := ob_e hf
    refine zr_aldJ X hP hnJ zk_307 hx1 dX8_writeString_18 ?_
    refine lv_icmp_ge (tgt := 110) hx hb dX8_writeString_19 (by decide) (fun hc => ?_) (fun hc => ?_)
    · have hf := if_t hc hf
      cases hf
      exact KK H locs ls hP hS (lv_sub hl [1] rfl)
    · have hf := if_f hc hf
      refine lv_aload_n hx hb dX8_writeString_22 rfl (lv_at hl 1 rfl) ?_
      refine lv_iload_n hx hb dX8_writeString_23 rfl (lv_at hl 0 rfl) ?_
      obtain ⟨J2, hJ2, hf⟩ := ob_e hf
      refine zr_cVv (rest := []) (As := [.int a1]) X hP hS (ct_X8_writesNumber (g := g) (nc := nc) (I := I) (J := J) (O := O) hnJ l  hJ2) cw_X8_395 (zr_recv X hP (Nat.lt_of_lt_of_le (zk_306).2.1 hnJ) (zb_ceJo zk_306 (by decide)) rfl) rfl hl.1 (Nat.le_of_ble_eq_true rfl) ⟨Nat.le_of_ble_eq_true rfl, Nat.le_of_ble_eq_true rfl⟩ ⟨Nat.le_of_ble_eq_true rfl, Nat.le_of_ble_eq_true rfl⟩ dX8_writeString_24 rfl (fun H locs hP hS => ?_)
      refine lv_aload_n hx hb dX8_writeString_27 rfl (lv_at hl 1 rfl) ?_
      refine lv_aload_n hx hb dX8_writeString_28 rfl (lv_at hl 1 rfl) ?_
      refine gf_X8_7 X hnJ hP zk_306 dX8_writeString_29 ?_
      refine lv_bipush (v := (52 : Int32)) hx hb dX8_writeString_32 (by decide) ?_
      refine lv_iload_n hx hb dX8_writeString_34 rfl (lv_at hl 0 rfl) ?_
      refine lv_iadd hx hb dX8_writeString_35 ?_
      obtain ⟨x3, hx3, hf⟩ := ob_e hf
      refine zr_aldJ X hP hnJ zk_307 hx3 dX8_writeString_36 ?_
      obtain ⟨x5, ht, hf⟩ := ob_e hf
      have K1 : ∀ (H : Heap) (locs : List Loc) (ls : Array Slot), va_P g.1 vwCl (zb_ws g nc (zb_ce g I J2 O)) H → va_S (zb_A g) s.heap H locs → lv_has ls 2 [(1, .int a1), (0, .ref (g.2.2 + 306))] → W p l e { frames := 2, cells := 0, slots := 0, locals := 44 } s m args below meth c H locs 0 0 Q (F0 m 65 ls [.int x5, .ref (g.2.2 + 306)]) := by
        intro H locs ls hP hS hl
        obtain ⟨J6, hJ6, hf⟩ := ob_e hf
        refine zr_cVv (rest := []) (As := [.int x5]) X hP hS (ct_X8_writes (g := g) (nc := nc) (I := I) (J := J2) (O := O) hnJ l  hJ6) cw_X8_392 (zr_recv X hP (Nat.lt_of_lt_of_le (zk_306).2.1 hnJ) (zb_ceJo zk_306 (by decide)) rfl) rfl hl.1 (Nat.le_of_ble_eq_true rfl) ⟨Nat.le_of_ble_eq_true rfl, Nat.le_of_ble_eq_true rfl⟩ ⟨Nat.le_of_ble_eq_true rfl, Nat.le_of_ble_eq_true rfl⟩ dX8_writeString_65 rfl (fun H locs hP hS => ?_)
        refine lv_iload_n hx hb dX8_writeString_68 rfl (lv_at hl 0 rfl) ?_
        refine lv_iconst (v := (1 : Int32)) hx hb dX8_writeString_69 (by decide) ?_
        refine lv_iadd hx hb dX8_writeString_70 ?_
        refine lv_aload_n hx hb dX8_writeString_71 rfl (lv_at hl 1 rfl) ?_
        refine gf_X8_7 X hnJ hP zk_306 dX8_writeString_72 ?_
        refine lv_iconst (v := (0 : Int32)) hx hb dX8_writeString_75 (by decide) ?_
        obtain ⟨x7, hx7, hf⟩ := ob_e hf
        refine zr_aldJ X hP hnJ zk_307 hx7 dX8_writeString_76 ?_
        obtain ⟨J11, ht, hf⟩ := ob_e hf
        have K2 : ∀ (H : Heap) (locs : List Loc) (ls : Array Slot), va_P g.1 vwCl (zb_ws g nc (zb_ce g I J11 O)) H → va_S (zb_A g) s.heap H locs → lv_has ls 2 [(1, .int a1), (0, .ref (g.2.2 + 306))] → W p l e { frames := 2, cells := 0, slots := 0, locals := 44 } s m args below meth c H locs 0 0 Q (F0 m 104 ls []) := by
          intro H locs ls hP hS hl
          refine lv_iinc (v := (a1 + (1 : Int32))) (lv' := [(1, .int (a1 + (1 : Int32))), (0, .ref (g.2.2 + 306))]) hx hb dX8_writeString_104 hl (k := 0) rfl rfl (by decide) rfl (fun ls hl => ?_)
          refine lv_goto (tgt := 12) hx hb dX8_writeString_107 (by decide) ?_
          exact ih hf KK hP hS (lv_sub hl [0, 1] rfl)
        have hf := ht
        refine lv_icmp_ge (tgt := 104) hx hb dX8_writeString_77 (by decide) (fun hc => ?_) (fun hc => ?_)
        · have hf := if_t hc hf
          cases hf
          exact K2 H locs ls hP hS (lv_sub hl [0, 1] rfl)
        · have hf := if_f hc hf
          refine lv_aload_n hx hb dX8_writeString_80 rfl (lv_at hl 1 rfl) ?_
          refine lv_aload_n hx hb dX8_writeString_81 rfl (lv_at hl 1 rfl) ?_
          refine gf_X8_7 X hnJ hP zk_306 dX8_writeString_82 ?_
          refine lv_sipush (v := (132 : Int32)) hx hb dX8_writeString_85 (by decide) ?_
          refine lv_iload_n hx hb dX8_writeString_88 rfl (lv_at hl 0 rfl) ?_
          refine lv_iadd hx hb dX8_writeString_89 ?_
          obtain ⟨x8, hx8, hf⟩ := ob_e hf
          refine zr_aldJ X hP hnJ zk_307 hx8 dX8_writeString_90 ?_
          obtain ⟨x9, ht, hf⟩ := pl_e hf
          have K3 : ∀ (H : Heap) (locs : List Loc) (ls : Array Slot), va_P g.1 vwCl (zb_ws g nc (zb_ce g I J6 O)) H → va_S (zb_A g) s.heap H locs → lv_has ls 2 [(1, .int a1), (0, .ref (g.2.2 + 306))] → W p l e { frames := 2, cells := 0, slots := 0, locals := 44 } s m args below meth c H locs 0 0 Q (F0 m 101 ls [.int x9, .ref (g.2.2 + 306)]) := by
            intro H locs ls hP hS hl
            obtain ⟨J10, hJ10, hf⟩ := ob_e hf
            refine zr_cVv (rest := []) (As := [.int x9]) X hP hS (ct_X8_writes (g := g) (nc := nc) (I := I) (J := J6) (O := O) hnJ l  hJ10) cw_X8_392 (zr_recv X hP (Nat.lt_of_lt_of_le (zk_306).2.1 hnJ) (zb_ceJo zk_306 (by decide)) rfl) rfl hl.1 (Nat.le_of_ble_eq_true rfl) ⟨Nat.le_of_ble_eq_true rfl, Nat.le_of_ble_eq_true rfl⟩ ⟨Nat.le_of_ble_eq_true rfl, Nat.le_of_ble_eq_true rfl⟩ dX8_writeString_101 rfl (fun H locs hP hS => ?_)
            cases hf
            exact K2 H locs ls hP hS (lv_sub hl [0, 1] rfl)
          have hf := ht
          refine lv_if_ne (tgt := 99) hx hb dX8_writeString_91 (by decide) (fun hc => ?_) (fun hc => ?_)
          · have hf := if_f hc hf
            refine lv_bipush (v := (32 : Int32)) hx hb dX8_writeString_99 (by decide) ?_
            cases hf
            exact K3 H locs ls hP hS (lv_sub hl [0, 1] rfl)
          · have hf := if_t hc hf
            refine lv_bipush (v := (45 : Int32)) hx hb dX8_writeString_94 (by decide) ?_
            refine lv_goto (tgt := 101) hx hb dX8_writeString_96 (by decide) ?_
            cases hf
            exact K3 H locs ls hP hS (lv_sub hl [0, 1] rfl)
      have hf := ht
      refine lv_if_ne (tgt := 45) hx hb dX8_writeString_37 (by decide) (fun hc => ?_) (fun hc => ?_)
      · have hf := if_f hc hf
        refine lv_aload_n hx hb dX8_writeString_45 rfl (lv_at hl 1 rfl) ?_
        refine gf_X8_7 X hnJ hP zk_306 dX8_writeString_46 ?_
        refine lv_bipush (v := (52 : Int32)) hx hb dX8_writeString_49 (by decide) ?_
        refine lv_iload_n hx hb dX8_writeString_51 rfl (lv_at hl 0 rfl) ?_
        refine lv_iadd hx hb dX8_writeString_52 ?_
        obtain ⟨x4, hx4, hf⟩ := ob_e hf
        refine zr_aldJ X hP hnJ zk_307 hx4 dX8_writeString_53 ?_
        refine lv_iconst (v := (1 : Int32)) hx hb dX8_writeString_54 (by decide) ?_
        refine lv_icmp_ne (tgt := 63) hx hb dX8_writeString_55 (by decide) (fun hc => ?_) (fun hc => ?_)
        · have hf := if_f hc hf
          refine lv_bipush (v := (68 : Int32)) hx hb dX8_writeString_63 (by decide) ?_
          cases hf
          exact K1 H locs ls hP hS (lv_sub hl [0, 1] rfl)
        · have hf := if_t hc hf
          refine lv_bipush (v := (83 : Int32)) hx hb dX8_writeString_58 (by decide) ?_
          refine lv_goto (tgt := 65) hx hb dX8_writeString_60 (by decide) ?_
          cases hf
          exact K1 H locs ls hP hS (lv_sub hl [0, 1] rfl)
      · have hf := if_t hc hf
        refine lv_bipush (v := (84 : Int32)) hx hb dX8_writeString_40 (by decide) ?_
        refine lv_goto (tgt := 65) hx hb dX8_writeString_42 (by decide) ?_
        cases hf
        exact K1 H locs ls hP hS (lv_sub hl [0, 1] rfl)
set_option maxHeartbeats 4000000 in
set_option maxRecDepth 100000 in
theorem ct_X8_writeString {g : zb_G} {nc : Nat} (hnJ : 318 ≤ nc) (l : Launch) {I J O : Mem} {r9 : Int32} {Jq : Mem} (hf : fX8_writeString J = some (r9, Jq)) : zb_Ct l g nc yX8_writeString cX8_writeString 2 (some .int) 2 44 [.ref (g.2.2 + 306)] (zb_ce g I J O) (some (.int r9)) (zb_ce g I Jq O) := by
  refine zb_ofW (own := RX8) (by decide +kernel) rfl (Nat.le_of_ble_eq_true rfl) ?_
  intro p e s m args below meth c ls X hr hP hl
  have hx := X.1.1
  have hb := X.1.2.1
  have ho := X.1.2.2.2.1
  have hts := X.1.2.2.2.2
  have hZ := X.2.2.2
  have hl : lv_has ls 2 [(0, .ref (g.2.2 + 306))] := hl
  have hS : va_S (zb_A g) s.heap s.heap [] := va_S.rf
  obtain ⟨H, hH⟩ : ∃ H, H = s.heap := ⟨_, rfl⟩
  obtain ⟨locs, hlocs⟩ : ∃ z : List Loc, z = [] := ⟨_, rfl⟩
  rw [← hH] at hP
  have hS : va_S (zb_A g) s.heap H locs := by rw [hH, hlocs]; exact hS
  show W p l e _ s m args below meth c s.heap [] 0 0 _ _
  rw [← hH, ← hlocs]
  rw [fX8_writeString] at hf
  refine lv_aload_n hx hb dX8_writeString_0 rfl (lv_at hl 0 rfl) ?_
  refine lv_iconst (v := (0 : Int32)) hx hb dX8_writeString_1 (by decide) ?_
  refine pf_X8_57 X hnJ hP hS zk_306 dX8_writeString_2 (fun H locs hP hS => ?_)
  refine lv_aload_n hx hb dX8_writeString_5 rfl (lv_at hl 0 rfl) ?_
  refine lv_iconst (v := (0 : Int32)) hx hb dX8_writeString_6 (by decide) ?_
  refine pf_X8_389 X hnJ hP hS zk_306 dX8_writeString_7 (fun H locs hP hS => ?_)
  refine lv_iconst (v := (0 : Int32)) hx hb dX8_writeString_10 (by decide) ?_
  refine lv_istore_n (lv' := [(1, .int (0 : Int32)), (0, .ref (g.2.2 + 306))]) hx hb dX8_writeString_11 rfl hl (by decide) rfl (fun ls hl => ?_)
  obtain ⟨J12, hJ12, hf⟩ := ob_e hf
  have K4 : ∀ (H : Heap) (locs : List Loc) (ls : Array Slot), va_P g.1 vwCl (zb_ws g nc (zb_ce g I J12 O)) H → va_S (zb_A g) s.heap H locs → lv_has ls 2 [(0, .ref (g.2.2 + 306))] → W p l e { frames := 2, cells := 0, slots := 0, locals := 44 } s m args below meth c H locs 0 0 (MQ below (zb_Po g nc (zb_ce g I Jq O) (some (.int r9))) args s 0 0 (zb_A g)) (F0 m 110 ls []) := by
    intro H locs ls hP hS hl
    refine lv_aload_n hx hb dX8_writeString_110 rfl (lv_at hl 0 rfl) ?_
    refine gf_X8_389 X hnJ hP zk_306 dX8_writeString_111 ?_
    cases hf
    exact zr_iret X hr hP hS dX8_writeString_114
  exact lpX8_writeString_L12 hnJ l  X hJ12 K4 hP hS (lv_sub hl [0, 1] rfl)
set_option maxHeartbeats 4000000 in
set_option maxRecDepth 100000 in
theorem lpX8_writeHours_L15 {g : zb_G} {nc : Nat} (hnJ : 318 ≤ nc) (l : Launch) {I O : Mem} {p : Program} {e : Env} {s : State} {m : MethodId} {args : Array Value} {below : List Frame} {meth : Method} {c : Code} {Q : State → Prop} (X : zb_X g p m c cX8_writeHours 2 s args RX8 meth) : ∀ {n9 : Nat} {a1 : Int32} {J : Mem} {Jz : Mem} {H : Heap} {locs : List Loc} {ls : Array Slot}, fX8_writeHours_L15 n9 a1 J = some Jz → (∀ (H : Heap) (locs : List Loc) (ls : Array Slot), va_P g.1 vwCl (zb_ws g nc (zb_ce g I Jz O)) H → va_S (zb_A g) s.heap H locs → lv_has ls 2 [(0, .ref (g.2.2 + 306))] → W p l e { frames := 2, cells := 0, slots := 0, locals := 44 } s m args below meth c H locs 0 0 Q (F0 m 84 ls [])) → va_P g.1 vwCl (zb_ws g nc (zb_ce g I J O)) H → va_S (zb_A g) s.heap H locs → lv_has ls 2 [(1, .int a1), (0, .ref (g.2.2 + 306))] → W p l e { frames := 2, cells := 0, slots := 0, locals := 44 } s m args below meth c H locs 0 0 Q (F0 m 15 ls []) := by
  have hx := X.1.1
  have hb := X.1.2.1
  have ho := X.1.2.2.2.1
  have hts := X.1.2.2.2.2
  have hZ := X.2.2.2
  intro n9
  induction n9 with
  | zero =>
    intro a1 J Jz H locs ls hf
    exact nomatch hf
  | succ n9 ih =>
    intro a1 J Jz H locs ls hf KK hP hS hl
    rw [fX8_writeHours_L15] at hf
    refine lv_iload_n hx hb dX8_writeHours_15 rfl (lv_at hl 0 rfl) ?_
    refine lv_aload_n hx hb dX8_writeHours_16 rfl (lv_at hl 1 rfl) ?_
    refine gf_X8_7 X hnJ hP zk_306 dX8_writeHours_17 ?_
    refine lv_iconst (v := (5 : Int32)) hx hb dX8_writeHours_20 (by decide) ?_
    obtain ⟨x2, hx2, hf⟩ := ob_e hf
    refine zr_aldJ X hP hnJ zk_307 hx2 dX8_writeHours_21 ?_
    refine lv_icmp_ge (tgt := 84) hx hb dX8_writeHours_22 (by decide) (fun hc => ?_) (fun hc => ?_)
    · have hf := if_t hc hf
      cases hf
      exact KK H locs ls hP hS (lv_sub hl [1] rfl)
    · have hf := if_f hc hf
      refine lv_iload_n hx hb dX8_writeHours_25 rfl (lv_at hl 0 rfl) ?_
      refine lv_aload_n hx hb dX8_writeHours_26 rfl (lv_at hl 1 rfl) ?_
      obtain ⟨x3, hx3, hf⟩ := ob_e hf
      refine zr_cVi (rest := [.int a1]) (As := []) X hP hS (ct_X8_firstHour (g := g) (nc := nc) (I := I) (J := J) (O := O) hnJ l  hx3) cw_X8_203 (zr_recv X hP (Nat.lt_of_lt_of_le (zk_306).2.1 hnJ) (zb_ceJo zk_306 (by decide)) rfl) rfl hl.1 (Nat.le_of_ble_eq_true rfl) ⟨Nat.le_of_ble_eq_true rfl, Nat.le_of_ble_eq_true rfl⟩ ⟨Nat.le_of_ble_eq_true rfl, Nat.le_of_ble_eq_true rfl⟩ dX8_writeHours_27 rfl (fun H locs hP hS => ?_)
      obtain ⟨J5, ht, hf⟩ := ob_e hf
      have K1 : ∀ (H : Heap) (locs : List Loc) (ls : Array Slot), va_P g.1 vwCl (zb_ws g nc (zb_ce g I J5 O)) H → va_S (zb_A g) s.heap H locs → lv_has ls 2 [(1, .int a1), (0, .ref (g.2.2 + 306))] → W p l e { frames := 2, cells := 0, slots := 0, locals := 44 } s m args below meth c H locs 0 0 Q (F0 m 39 ls []) := by
        intro H locs ls hP hS hl
        refine lv_aload_n hx hb dX8_writeHours_39 rfl (lv_at hl 1 rfl) ?_
        refine lv_iload_n hx hb dX8_writeHours_40 rfl (lv_at hl 0 rfl) ?_
        obtain ⟨J6, hJ6, hf⟩ := ob_e hf
        refine zr_cVv (rest := []) (As := [.int a1]) X hP hS (ct_X8_writesNumber (g := g) (nc := nc) (I := I) (J := J5) (O := O) hnJ l  hJ6) cw_X8_395 (zr_recv X hP (Nat.lt_of_lt_of_le (zk_306).2.1 hnJ) (zb_ceJo zk_306 (by decide)) rfl) rfl hl.1 (Nat.le_of_ble_eq_true rfl) ⟨Nat.le_of_ble_eq_true rfl, Nat.le_of_ble_eq_true rfl⟩ ⟨Nat.le_of_ble_eq_true rfl, Nat.le_of_ble_eq_true rfl⟩ dX8_writeHours_41 rfl (fun H locs hP hS => ?_)
        refine lv_aload_n hx hb dX8_writeHours_44 rfl (lv_at hl 1 rfl) ?_
        refine lv_iload_n hx hb dX8_writeHours_45 rfl (lv_at hl 0 rfl) ?_
        refine lv_iconst (v := (2 : Int32)) hx hb dX8_writeHours_46 (by decide) ?_
        obtain ⟨x7, hx7, hf⟩ := ob_e hf
        refine zr_cVi (rest := []) (As := [.int a1, .int (2 : Int32)]) X hP hS (ct_X8_of (g := g) (nc := nc) (I := I) (J := J6) (O := O) hnJ l  hx7) cw_X8_209 (zr_recv X hP (Nat.lt_of_lt_of_le (zk_306).2.1 hnJ) (zb_ceJo zk_306 (by decide)) rfl) rfl hl.1 (Nat.le_of_ble_eq_true rfl) ⟨Nat.le_of_ble_eq_true rfl, Nat.le_of_ble_eq_true rfl⟩ ⟨Nat.le_of_ble_eq_true rfl, Nat.le_of_ble_eq_true rfl⟩ dX8_writeHours_47 rfl (fun H locs hP hS => ?_)
        obtain ⟨J12, ht, hf⟩ := ob_e hf
        have K2 : ∀ (H : Heap) (locs : List Loc) (ls : Array Slot), va_P g.1 vwCl (zb_ws g nc (zb_ce g I J12 O)) H → va_S (zb_A g) s.heap H locs → lv_has ls 2 [(1, .int a1), (0, .ref (g.2.2 + 306))] → W p l e { frames := 2, cells := 0, slots := 0, locals := 44 } s m args below meth c H locs 0 0 Q (F0 m 78 ls []) := by
          intro H locs ls hP hS hl
          refine lv_iinc (v := (a1 + (1 : Int32))) (lv' := [(1, .int (a1 + (1 : Int32))), (0, .ref (g.2.2 + 306))]) hx hb dX8_writeHours_78 hl (k := 0) rfl rfl (by decide) rfl (fun ls hl => ?_)
          refine lv_goto (tgt := 15) hx hb dX8_writeHours_81 (by decide) ?_
          exact ih hf KK hP hS (lv_sub hl [0, 1] rfl)
        have hf := ht
        refine lv_if_ne (tgt := 62) hx hb dX8_writeHours_50 (by decide) (fun hc => ?_) (fun hc => ?_)
        · have hf := if_f hc hf
          refine lv_aload_n hx hb dX8_writeHours_62 rfl (lv_at hl 1 rfl) ?_
          refine lv_bipush (v := (61 : Int32)) hx hb dX8_writeHours_63 (by decide) ?_
          obtain ⟨J8, hJ8, hf⟩ := ob_e hf
          refine zr_cVv (rest := []) (As := [.int (61 : Int32)]) X hP hS (ct_X8_writes (g := g) (nc := nc) (I := I) (J := J6) (O := O) hnJ l  hJ8) cw_X8_392 (zr_recv X hP (Nat.lt_of_lt_of_le (zk_306).2.1 hnJ) (zb_ceJo zk_306 (by decide)) rfl) rfl hl.1 (Nat.le_of_ble_eq_true rfl) ⟨Nat.le_of_ble_eq_true rfl, Nat.le_of_ble_eq_true rfl⟩ ⟨Nat.le_of_ble_eq_true rfl, Nat.le_of_ble_eq_true rfl⟩ dX8_writeHours_65 rfl (fun H locs hP hS => ?_)
          refine lv_aload_n hx hb dX8_writeHours_68 rfl (lv_at hl 1 rfl) ?_
          refine lv_aload_n hx hb dX8_writeHours_69 rfl (lv_at hl 1 rfl) ?_
          refine lv_iload_n hx hb dX8_writeHours_70 rfl (lv_at hl 0 rfl) ?_
          refine lv_iconst (v := (5 : Int32)) hx hb dX8_writeHours_71 (by decide) ?_
          obtain ⟨x9, hx9, hf⟩ := ob_e hf
          refine zr_cVi (rest := [.ref (g.2.2 + 306)]) (As := [.int a1, .int (5 : Int32)]) X hP hS (ct_X8_of (g := g) (nc := nc) (I := I) (J := J8) (O := O) hnJ l  hx9) cw_X8_209 (zr_recv X hP (Nat.lt_of_lt_of_le (zk_306).2.1 hnJ) (zb_ceJo zk_306 (by decide)) rfl) rfl hl.1 (Nat.le_of_ble_eq_true rfl) ⟨Nat.le_of_ble_eq_true rfl, Nat.le_of_ble_eq_true rfl⟩ ⟨Nat.le_of_ble_eq_true rfl, Nat.le_of_ble_eq_true rfl⟩ dX8_writeHours_72 rfl (fun H locs hP hS => ?_)
          obtain ⟨J10, hJ10, hf⟩ := ob_e hf
          refine zr_cVv (rest := []) (As := [.int x9]) X hP hS (ct_X8_writesNumber (g := g) (nc := nc) (I := I) (J := J8) (O := O) hnJ l  hJ10) cw_X8_395 (zr_recv X hP (Nat.lt_of_lt_of_le (zk_306).2.1 hnJ) (zb_ceJo zk_306 (by decide)) rfl) rfl hl.1 (Nat.le_of_ble_eq_true rfl) ⟨Nat.le_of_ble_eq_true rfl, Nat.le_of_ble_eq_true rfl⟩ ⟨Nat.le_of_ble_eq_true rfl, Nat.le_of_ble_eq_true rfl⟩ dX8_writeHours_75 rfl (fun H locs hP hS => ?_)
          cases hf
          exact K2 H locs ls hP hS (lv_sub hl [0, 1] rfl)
        · have hf := if_t hc hf
          refine lv_aload_n hx hb dX8_writeHours_53 rfl (lv_at hl 1 rfl) ?_
          refine lv_bipush (v := (63 : Int32)) hx hb dX8_writeHours_54 (by decide) ?_
          obtain ⟨J11, hJ11, hf⟩ := ob_e hf
          refine zr_cVv (rest := []) (As := [.int (63 : Int32)]) X hP hS (ct_X8_writes (g := g) (nc := nc) (I := I) (J := J6) (O := O) hnJ l  hJ11) cw_X8_392 (zr_recv X hP (Nat.lt_of_lt_of_le (zk_306).2.1 hnJ) (zb_ceJo zk_306 (by decide)) rfl) rfl hl.1 (Nat.le_of_ble_eq_true rfl) ⟨Nat.le_of_ble_eq_true rfl, Nat.le_of_ble_eq_true rfl⟩ ⟨Nat.le_of_ble_eq_true rfl, Nat.le_of_ble_eq_true rfl⟩ dX8_writeHours_56 rfl (fun H locs hP hS => ?_)
          refine lv_goto (tgt := 78) hx hb dX8_writeHours_59 (by decide) ?_
          cases hf
          exact K2 H locs ls hP hS (lv_sub hl [0, 1] rfl)
      have hf := ht
      refine lv_icmp_le (tgt := 39) hx hb dX8_writeHours_30 (by decide) (fun hc => ?_) (fun hc => ?_)
      · have hf := if_t hc hf
        cases hf
        exact K1 H locs ls hP hS (lv_sub hl [0, 1] rfl)
      · have hf := if_f hc hf
        refine lv_aload_n hx hb dX8_writeHours_33 rfl (lv_at hl 1 rfl) ?_
        refine lv_bipush (v := (32 : Int32)) hx hb dX8_writeHours_34 (by decide) ?_
        obtain ⟨J4, hJ4, hf⟩ := ob_e hf
        refine zr_cVv (rest := []) (As := [.int (32 : Int32)]) X hP hS (ct_X8_writes (g := g) (nc := nc) (I := I) (J := J) (O := O) hnJ l  hJ4) cw_X8_392 (zr_recv X hP (Nat.lt_of_lt_of_le (zk_306).2.1 hnJ) (zb_ceJo zk_306 (by decide)) rfl) rfl hl.1 (Nat.le_of_ble_eq_true rfl) ⟨Nat.le_of_ble_eq_true rfl, Nat.le_of_ble_eq_true rfl⟩ ⟨Nat.le_of_ble_eq_true rfl, Nat.le_of_ble_eq_true rfl⟩ dX8_writeHours_36 rfl (fun H locs hP hS => ?_)
        cases hf
        exact K1 H locs ls hP hS (lv_sub hl [0, 1] rfl)
set_option maxHeartbeats 4000000 in
set_option maxRecDepth 100000 in
theorem ct_X8_writeHours {g : zb_G} {nc : Nat} (hnJ : 318 ≤ nc) (l : Launch) {I J O : Mem} {r9 : Int32} {Jq : Mem} (hf : fX8_writeHours J = some (r9, Jq)) : zb_Ct l g nc yX8_writeHours cX8_writeHours 2 (some .int) 2 44 [.ref (g.2.2 + 306)] (zb_ce g I J O) (some (.int r9)) (zb_ce g I Jq O) := by
  refine zb_ofW (own := RX8) (by decide +kernel) rfl (Nat.le_of_ble_eq_true rfl) ?_
  intro p e s m args below meth c ls X hr hP hl
  have hx := X.1.1
  have hb := X.1.2.1
  have ho := X.1.2.2.2.1
  have hts := X.1.2.2.2.2
  have hZ := X.2.2.2
  have hl : lv_has ls 2 [(0, .ref (g.2.2 + 306))] := hl
  have hS : va_S (zb_A g) s.heap s.heap [] := va_S.rf
  obtain ⟨H, hH⟩ : ∃ H, H = s.heap := ⟨_, rfl⟩
  obtain ⟨locs, hlocs⟩ : ∃ z : List Loc, z = [] := ⟨_, rfl⟩
  rw [← hH] at hP
  have hS : va_S (zb_A g) s.heap H locs := by rw [hH, hlocs]; exact hS
  show W p l e _ s m args below meth c s.heap [] 0 0 _ _
  rw [← hH, ← hlocs]
  rw [fX8_writeHours] at hf
  refine lv_aload_n hx hb dX8_writeHours_0 rfl (lv_at hl 0 rfl) ?_
  refine lv_iconst (v := (0 : Int32)) hx hb dX8_writeHours_1 (by decide) ?_
  refine pf_X8_57 X hnJ hP hS zk_306 dX8_writeHours_2 (fun H locs hP hS => ?_)
  refine lv_aload_n hx hb dX8_writeHours_5 rfl (lv_at hl 0 rfl) ?_
  refine lv_iconst (v := (0 : Int32)) hx hb dX8_writeHours_6 (by decide) ?_
  refine pf_X8_389 X hnJ hP hS zk_306 dX8_writeHours_7 (fun H locs hP hS => ?_)
  refine lv_aload_n hx hb dX8_writeHours_10 rfl (lv_at hl 0 rfl) ?_
  obtain ⟨x1, hx1, hf⟩ := ob_e hf
  refine zr_cVi (rest := []) (As := []) X hP hS (ct_X8_firstHour (g := g) (nc := nc) (I := I) (J := (wr (wr J 306 0 (0 : Int32)) 306 26 (0 : Int32))) (O := O) hnJ l  hx1) cw_X8_203 (zr_recv X hP (Nat.lt_of_lt_of_le (zk_306).2.1 hnJ) (zb_ceJo zk_306 (by decide)) rfl) rfl hl.1 (Nat.le_of_ble_eq_true rfl) ⟨Nat.le_of_ble_eq_true rfl, Nat.le_of_ble_eq_true rfl⟩ ⟨Nat.le_of_ble_eq_true rfl, Nat.le_of_ble_eq_true rfl⟩ dX8_writeHours_11 rfl (fun H locs hP hS => ?_)
  refine lv_istore_n (lv' := [(1, .int x1), (0, .ref (g.2.2 + 306))]) hx hb dX8_writeHours_14 rfl hl (by decide) rfl (fun ls hl => ?_)
  obtain ⟨J13, hJ13, hf⟩ := ob_e hf
  have K3 : ∀ (H : Heap) (locs : List Loc) (ls : Array Slot), va_P g.1 vwCl (zb_ws g nc (zb_ce g I J13 O)) H → va_S (zb_A g) s.heap H locs → lv_has ls 2 [(0, .ref (g.2.2 + 306))] → W p l e { frames := 2, cells := 0, slots := 0, locals := 44 } s m args below meth c H locs 0 0 (MQ below (zb_Po g nc (zb_ce g I Jq O) (some (.int r9))) args s 0 0 (zb_A g)) (F0 m 84 ls []) := by
    intro H locs ls hP hS hl
    refine lv_aload_n hx hb dX8_writeHours_84 rfl (lv_at hl 0 rfl) ?_
    refine gf_X8_389 X hnJ hP zk_306 dX8_writeHours_85 ?_
    cases hf
    exact zr_iret X hr hP hS dX8_writeHours_88
  exact lpX8_writeHours_L15 hnJ l  X hJ13 K3 hP hS (lv_sub hl [0, 1] rfl)
set_option maxHeartbeats 4000000 in
set_option maxRecDepth 100000 in
theorem ct_X8_output {g : zb_G} {nc : Nat} (hnJ : 318 ≤ nc) (l : Launch) {a1 : Int32} {I J O : Mem} {r9 : Int32} {Jq : Mem} (hf : fX8_output a1 J = some (r9, Jq)) : zb_Ct l g nc yX8_output cX8_output 2 (some .int) 1 22 [.ref (g.2.2 + 306), .int a1] (zb_ce g I J O) (some (.int r9)) (zb_ce g I Jq O) := by
  refine zb_ofW (own := RX8) (by decide +kernel) rfl (Nat.le_of_ble_eq_true rfl) ?_
  intro p e s m args below meth c ls X hr hP hl
  have hx := X.1.1
  have hb := X.1.2.1
  have ho := X.1.2.2.2.1
  have hts := X.1.2.2.2.2
  have hZ := X.2.2.2
  have hl : lv_has ls 2 [(0, .ref (g.2.2 + 306)), (1, .int a1)] := hl
  have hS : va_S (zb_A g) s.heap s.heap [] := va_S.rf
  obtain ⟨H, hH⟩ : ∃ H, H = s.heap := ⟨_, rfl⟩
  obtain ⟨locs, hlocs⟩ : ∃ z : List Loc, z = [] := ⟨_, rfl⟩
  rw [← hH] at hP
  have hS : va_S (zb_A g) s.heap H locs := by rw [hH, hlocs]; exact hS
  show W p l e _ s m args below meth c s.heap [] 0 0 _ _
  rw [← hH, ← hlocs]
  rw [fX8_output] at hf
  refine lv_aload_n hx hb dX8_output_0 rfl (lv_at hl 0 rfl) ?_
  refine lv_iconst (v := (0 : Int32)) hx hb dX8_output_1 (by decide) ?_
  refine pf_X8_57 X hnJ hP hS zk_306 dX8_output_2 (fun H locs hP hS => ?_)
  refine lv_aload_n hx hb dX8_output_5 rfl (lv_at hl 0 rfl) ?_
  refine lv_iload_n hx hb dX8_output_6 rfl (lv_at hl 1 rfl) ?_
  refine lv_iconst (v := (0 : Int32)) hx hb dX8_output_7 (by decide) ?_
  refine lv_aload_n hx hb dX8_output_8 rfl (lv_at hl 0 rfl) ?_
  refine gf_X8_389 X hnJ hP zk_306 dX8_output_9 ?_
  refine lv_iconst (v := (1 : Int32)) hx hb dX8_output_12 (by decide) ?_
  refine lv_isub hx hb dX8_output_13 ?_
  obtain ⟨x1, hx1, hf⟩ := ob_e hf
  refine zr_cSi (rest := [.ref (g.2.2 + 306)]) (As := [.int a1, .int (0 : Int32), .int (((wr J 306 0 (0 : Int32)) 306 26) - (1 : Int32))]) X hP hS (ct_X8_within (g := g) (nc := nc) (I := I) (J := (wr J 306 0 (0 : Int32))) (O := O)  l  hx1) cw_X8_60  rfl hl.1 (Nat.le_of_ble_eq_true rfl) ⟨Nat.le_of_ble_eq_true rfl, Nat.le_of_ble_eq_true rfl⟩ ⟨Nat.le_of_ble_eq_true rfl, Nat.le_of_ble_eq_true rfl⟩ dX8_output_14 rfl (fun H locs hP hS => ?_)
  obtain ⟨x2, ht, hf⟩ := pl_e hf
  have K1 : ∀ (H : Heap) (locs : List Loc) (ls : Array Slot), va_P g.1 vwCl (zb_ws g nc (zb_ce g I (wr J 306 0 (0 : Int32)) O)) H → va_S (zb_A g) s.heap H locs → lv_has ls 2 [(0, .ref (g.2.2 + 306)), (1, .int a1)] → W p l e { frames := 1, cells := 0, slots := 0, locals := 22 } s m args below meth c H locs 0 0 (MQ below (zb_Po g nc (zb_ce g I Jq O) (some (.int r9))) args s 0 0 (zb_A g)) (F0 m 25 ls [.int x2, .ref (g.2.2 + 306)]) := by
    intro H locs ls hP hS hl
    refine lv_iconst (v := (1 : Int32)) hx hb dX8_output_25 (by decide) ?_
    obtain ⟨x3, J4, hx3_J4, hf⟩ := ob2_e hf
    refine zr_cVi (rest := []) (As := [.int x2, .int (1 : Int32)]) X hP hS (ct_X8_throwsIf (g := g) (nc := nc) (I := I) (J := (wr J 306 0 (0 : Int32))) (O := O) hnJ l  hx3_J4) cw_X8_64 (zr_recv X hP (Nat.lt_of_lt_of_le (zk_306).2.1 hnJ) (zb_ceJo zk_306 (by decide)) rfl) rfl hl.1 (Nat.le_of_ble_eq_true rfl) ⟨Nat.le_of_ble_eq_true rfl, Nat.le_of_ble_eq_true rfl⟩ ⟨Nat.le_of_ble_eq_true rfl, Nat.le_of_ble_eq_true rfl⟩ dX8_output_26 rfl (fun H locs hP hS => ?_)
    obtain ⟨x6, ht, hf⟩ := ob_e hf
    have K2 : ∀ (H : Heap) (locs : List Loc) (ls : Array Slot), va_P g.1 vwCl (zb_ws g nc (zb_ce g I J4 O)) H → va_S (zb_A g) s.heap H locs → lv_has ls 2 [] → W p l e { frames := 1, cells := 0, slots := 0, locals := 22 } s m args below meth c H locs 0 0 (MQ below (zb_Po g nc (zb_ce g I Jq O) (some (.int r9))) args s 0 0 (zb_A g)) (F0 m 42 ls [.int x6]) := by
      intro H locs ls hP hS hl
      cases hf
      exact zr_iret X hr hP hS dX8_output_42
    have hf := ht
    refine lv_if_eq (tgt := 36) hx hb dX8_output_29 (by decide) (fun hc => ?_) (fun hc => ?_)
    · have hf := if_t hc hf
      refine lv_aload_n hx hb dX8_output_36 rfl (lv_at hl 0 rfl) ?_
      refine gf_X8_46 X hnJ hP zk_306 dX8_output_37 ?_
      refine lv_iload_n hx hb dX8_output_40 rfl (lv_at hl 1 rfl) ?_
      obtain ⟨x5, hx5, hf⟩ := ob_e hf
      refine zr_aldJ X hP hnJ zk_317 hx5 dX8_output_41 ?_
      cases hf
      exact K2 H locs ls hP hS (lv_sub hl [] rfl)
    · have hf := if_f hc hf
      refine lv_iconst (v := (0 : Int32)) hx hb dX8_output_32 (by decide) ?_
      refine lv_goto (tgt := 42) hx hb dX8_output_33 (by decide) ?_
      cases hf
      exact K2 H locs ls hP hS (lv_sub hl [] rfl)
  have hf := ht
  refine lv_if_ne (tgt := 24) hx hb dX8_output_17 (by decide) (fun hc => ?_) (fun hc => ?_)
  · have hf := if_f hc hf
    refine lv_iconst (v := (0 : Int32)) hx hb dX8_output_24 (by decide) ?_
    cases hf
    exact K1 H locs ls hP hS (lv_sub hl [0, 1] rfl)
  · have hf := if_t hc hf
    refine lv_iconst (v := (1 : Int32)) hx hb dX8_output_20 (by decide) ?_
    refine lv_goto (tgt := 25) hx hb dX8_output_21 (by decide) ?_
    cases hf
    exact K1 H locs ls hP hS (lv_sub hl [0, 1] rfl)
set_option maxHeartbeats 4000000 in
set_option maxRecDepth 100000 in
theorem ct_X8_undo {g : zb_G} {nc : Nat} (hnJ : 318 ≤ nc) (l : Launch) {I J O : Mem} {r9 : Int32} {Jq : Mem} (hf : fX8_undo J = some (r9, Jq)) : zb_Ct l g nc yX8_undo cX8_undo 1 (some .int) 1 24 [.ref (g.2.2 + 306)] (zb_ce g I J O) (some (.int r9)) (zb_ce g I Jq O) := by
  refine zb_ofW (own := RX8) (by decide +kernel) rfl (Nat.le_of_ble_eq_true rfl) ?_
  intro p e s m args below meth c ls X hr hP hl
  have hx := X.1.1
  have hb := X.1.2.1
  have ho := X.1.2.2.2.1
  have hts := X.1.2.2.2.2
  have hZ := X.2.2.2
  have hl : lv_has ls 1 [(0, .ref (g.2.2 + 306))] := hl
  have hS : va_S (zb_A g) s.heap s.heap [] := va_S.rf
  obtain ⟨H, hH⟩ : ∃ H, H = s.heap := ⟨_, rfl⟩
  obtain ⟨locs, hlocs⟩ : ∃ z : List Loc, z = [] := ⟨_, rfl⟩
  rw [← hH] at hP
  have hS : va_S (zb_A g) s.heap H locs := by rw [hH, hlocs]; exact hS
  show W p l e _ s m args below meth c s.heap [] 0 0 _ _
  rw [← hH, ← hlocs]
  rw [fX8_undo] at hf
  refine lv_aload_n hx hb dX8_undo_0 rfl (lv_at hl 0 rfl) ?_
  refine lv_iconst (v := (0 : Int32)) hx hb dX8_undo_1 (by decide) ?_
  refine pf_X8_57 X hnJ hP hS zk_306 dX8_undo_2 (fun H locs hP hS => ?_)
  refine lv_aload_n hx hb dX8_undo_5 rfl (lv_at hl 0 rfl) ?_
  refine lv_aload_n hx hb dX8_undo_6 rfl (lv_at hl 0 rfl) ?_
  refine gf_X8_173 X hnJ hP zk_306 dX8_undo_7 ?_
  obtain ⟨x1, ht, hf⟩ := pl_e hf
  have K1 : ∀ (H : Heap) (locs : List Loc) (ls : Array Slot), va_P g.1 vwCl (zb_ws g nc (zb_ce g I (wr J 306 0 (0 : Int32)) O)) H → va_S (zb_A g) s.heap H locs → lv_has ls 1 [(0, .ref (g.2.2 + 306))] → W p l e { frames := 1, cells := 0, slots := 0, locals := 24 } s m args below meth c H locs 0 0 (MQ below (zb_Po g nc (zb_ce g I Jq O) (some (.int r9))) args s 0 0 (zb_A g)) (F0 m 18 ls [.int x1, .ref (g.2.2 + 306)]) := by
    intro H locs ls hP hS hl
    refine lv_iconst (v := (1 : Int32)) hx hb dX8_undo_18 (by decide) ?_
    obtain ⟨x2, J3, hx2_J3, hf⟩ := ob2_e hf
    refine zr_cVi (rest := []) (As := [.int x1, .int (1 : Int32)]) X hP hS (ct_X8_throwsIf (g := g) (nc := nc) (I := I) (J := (wr J 306 0 (0 : Int32))) (O := O) hnJ l  hx2_J3) cw_X8_64 (zr_recv X hP (Nat.lt_of_lt_of_le (zk_306).2.1 hnJ) (zb_ceJo zk_306 (by decide)) rfl) rfl hl.1 (Nat.le_of_ble_eq_true rfl) ⟨Nat.le_of_ble_eq_true rfl, Nat.le_of_ble_eq_true rfl⟩ ⟨Nat.le_of_ble_eq_true rfl, Nat.le_of_ble_eq_true rfl⟩ dX8_undo_19 rfl (fun H locs hP hS => ?_)
    refine lv_if_eq (tgt := 27) hx hb dX8_undo_22 (by decide) (fun hc => ?_) (fun hc => ?_)
    · have hf := if_t hc hf
      refine lv_aload_n hx hb dX8_undo_27 rfl (lv_at hl 0 rfl) ?_
      refine lv_dup hx hb dX8_undo_28 rfl ?_
      refine gf_X8_173 X hnJ hP zk_306 dX8_undo_29 ?_
      refine lv_iconst (v := (1 : Int32)) hx hb dX8_undo_32 (by decide) ?_
      refine lv_isub hx hb dX8_undo_33 ?_
      refine pf_X8_173 X hnJ hP hS zk_306 dX8_undo_34 (fun H locs hP hS => ?_)
      refine lv_aload_n hx hb dX8_undo_37 rfl (lv_at hl 0 rfl) ?_
      refine gf_X8_19 X hnJ hP zk_306 dX8_undo_38 ?_
      refine lv_sipush (v := (574 : Int32)) hx hb dX8_undo_41 (by decide) ?_
      refine lv_aload_n hx hb dX8_undo_44 rfl (lv_at hl 0 rfl) ?_
      refine gf_X8_173 X hnJ hP zk_306 dX8_undo_45 ?_
      refine lv_imul hx hb dX8_undo_48 ?_
      refine lv_aload_n hx hb dX8_undo_49 rfl (lv_at hl 0 rfl) ?_
      refine gf_X8_7 X hnJ hP zk_306 dX8_undo_50 ?_
      refine lv_iconst (v := (0 : Int32)) hx hb dX8_undo_53 (by decide) ?_
      obtain ⟨J4, hJ4, hf⟩ := ob_e hf
      refine zr_cSv (rest := []) (As := [.ref (g.2.2 + 310), .int ((574 : Int32) * ((wr J3 306 8 ((J3 306 8) - (1 : Int32))) 306 8)), .ref (g.2.2 + 307), .int (0 : Int32)]) X hP hS (ct_X8_copies (g := g) (nc := nc) (I := I) (J := (wr J3 306 8 ((J3 306 8) - (1 : Int32)))) (O := O) hnJ l zk_310 zk_307 hJ4) cw_X8_169  rfl hl.1 (Nat.le_of_ble_eq_true rfl) ⟨Nat.le_of_ble_eq_true rfl, Nat.le_of_ble_eq_true rfl⟩ ⟨Nat.le_of_ble_eq_true rfl, Nat.le_of_ble_eq_true rfl⟩ dX8_undo_54 rfl (fun H locs hP hS => ?_)
      refine lv_aload_n hx hb dX8_undo_57 rfl (lv_at hl 0 rfl) ?_
      refine gf_X8_173 X hnJ hP zk_306 dX8_undo_58 ?_
      cases hf
      exact zr_iret X hr hP hS dX8_undo_61
    · have hf := if_f hc hf
      refine lv_iconst (v := (0 : Int32)) hx hb dX8_undo_25 (by decide) ?_
      cases hf
      exact zr_iret X hr hP hS dX8_undo_26
  have hf := ht
  refine lv_if_ne (tgt := 17) hx hb dX8_undo_10 (by decide) (fun hc => ?_) (fun hc => ?_)
  · have hf := if_f hc hf
    refine lv_iconst (v := (0 : Int32)) hx hb dX8_undo_17 (by decide) ?_
    cases hf
    exact K1 H locs ls hP hS (lv_sub hl [0] rfl)
  · have hf := if_t hc hf
    refine lv_iconst (v := (1 : Int32)) hx hb dX8_undo_13 (by decide) ?_
    refine lv_goto (tgt := 18) hx hb dX8_undo_14 (by decide) ?_
    cases hf
    exact K1 H locs ls hP hS (lv_sub hl [0] rfl)
set_option maxHeartbeats 4000000 in
set_option maxRecDepth 100000 in
theorem ct_X8_noSlot {g : zb_G} {nc : Nat} (hnJ : 318 ≤ nc) (l : Launch) {a1 : Int32} {I J O : Mem} {r9 : Int32} {Jq : Mem} (hf : fX8_noSlot a1 J = some (r9, Jq)) : zb_Ct l g nc yX8_noSlot cX8_noSlot 2 (some .boolean) 1 22 [.ref (g.2.2 + 306), .int a1] (zb_ce g I J O) (some (.int r9)) (zb_ce g I Jq O) := by
  refine zb_ofW (own := RX8) (by decide +kernel) rfl (Nat.le_of_ble_eq_true rfl) ?_
  intro p e s m args below meth c ls X hr hP hl
  have hx := X.1.1
  have hb := X.1.2.1
  have ho := X.1.2.2.2.1
  have hts := X.1.2.2.2.2
  have hZ := X.2.2.2
  have hl : lv_has ls 2 [(0, .ref (g.2.2 + 306)), (1, .int a1)] := hl
  have hS : va_S (zb_A g) s.heap s.heap [] := va_S.rf
  obtain ⟨H, hH⟩ : ∃ H, H = s.heap := ⟨_, rfl⟩
  obtain ⟨locs, hlocs⟩ : ∃ z : List Loc, z = [] := ⟨_, rfl⟩
  rw [← hH] at hP
  have hS : va_S (zb_A g) s.heap H locs := by rw [hH, hlocs]; exact hS
  show W p l e _ s m args below meth c s.heap [] 0 0 _ _
  rw [← hH, ← hlocs]
  rw [fX8_noSlot] at hf
  refine lv_aload_n hx hb dX8_noSlot_0 rfl (lv_at hl 0 rfl) ?_
  refine lv_iconst (v := (0 : Int32)) hx hb dX8_noSlot_1 (by decide) ?_
  refine pf_X8_57 X hnJ hP hS zk_306 dX8_noSlot_2 (fun H locs hP hS => ?_)
  refine lv_aload_n hx hb dX8_noSlot_5 rfl (lv_at hl 0 rfl) ?_
  refine lv_iload_n hx hb dX8_noSlot_6 rfl (lv_at hl 1 rfl) ?_
  refine lv_iconst (v := (0 : Int32)) hx hb dX8_noSlot_7 (by decide) ?_
  refine lv_iconst (v := (1 : Int32)) hx hb dX8_noSlot_8 (by decide) ?_
  obtain ⟨x1, hx1, hf⟩ := ob_e hf
  refine zr_cSi (rest := [.ref (g.2.2 + 306)]) (As := [.int a1, .int (0 : Int32), .int (1 : Int32)]) X hP hS (ct_X8_within (g := g) (nc := nc) (I := I) (J := (wr J 306 0 (0 : Int32))) (O := O)  l  hx1) cw_X8_60  rfl hl.1 (Nat.le_of_ble_eq_true rfl) ⟨Nat.le_of_ble_eq_true rfl, Nat.le_of_ble_eq_true rfl⟩ ⟨Nat.le_of_ble_eq_true rfl, Nat.le_of_ble_eq_true rfl⟩ dX8_noSlot_9 rfl (fun H locs hP hS => ?_)
  obtain ⟨x2, ht, hf⟩ := pl_e hf
  have K1 : ∀ (H : Heap) (locs : List Loc) (ls : Array Slot), va_P g.1 vwCl (zb_ws g nc (zb_ce g I (wr J 306 0 (0 : Int32)) O)) H → va_S (zb_A g) s.heap H locs → lv_has ls 2 [] → W p l e { frames := 1, cells := 0, slots := 0, locals := 22 } s m args below meth c H locs 0 0 (MQ below (zb_Po g nc (zb_ce g I Jq O) (some (.int r9))) args s 0 0 (zb_A g)) (F0 m 20 ls [.int x2, .ref (g.2.2 + 306)]) := by
    intro H locs ls hP hS hl
    refine lv_iconst (v := (1 : Int32)) hx hb dX8_noSlot_20 (by decide) ?_
    obtain ⟨x3, J4, hx3_J4, hf⟩ := ob2_e hf
    refine zr_cVi (rest := []) (As := [.int x2, .int (1 : Int32)]) X hP hS (ct_X8_throwsIf (g := g) (nc := nc) (I := I) (J := (wr J 306 0 (0 : Int32))) (O := O) hnJ l  hx3_J4) cw_X8_64 (zr_recv X hP (Nat.lt_of_lt_of_le (zk_306).2.1 hnJ) (zb_ceJo zk_306 (by decide)) rfl) rfl hl.1 (Nat.le_of_ble_eq_true rfl) ⟨Nat.le_of_ble_eq_true rfl, Nat.le_of_ble_eq_true rfl⟩ ⟨Nat.le_of_ble_eq_true rfl, Nat.le_of_ble_eq_true rfl⟩ dX8_noSlot_21 rfl (fun H locs hP hS => ?_)
    obtain ⟨v9, hv9, hf⟩ := ob_e hf
    obtain ⟨hn9, he9⟩ := zbo_e hv9
    cases hf
    cases he9
    exact zr_zret X hr hn9 hP hS dX8_noSlot_24
  have hf := ht
  refine lv_if_ne (tgt := 19) hx hb dX8_noSlot_12 (by decide) (fun hc => ?_) (fun hc => ?_)
  · have hf := if_f hc hf
    refine lv_iconst (v := (0 : Int32)) hx hb dX8_noSlot_19 (by decide) ?_
    cases hf
    exact K1 H locs ls hP hS (lv_sub hl [] rfl)
  · have hf := if_t hc hf
    refine lv_iconst (v := (1 : Int32)) hx hb dX8_noSlot_15 (by decide) ?_
    refine lv_goto (tgt := 20) hx hb dX8_noSlot_16 (by decide) ?_
    cases hf
    exact K1 H locs ls hP hS (lv_sub hl [] rfl)
set_option maxHeartbeats 4000000 in
set_option maxRecDepth 100000 in
theorem ct_X8_save {g : zb_G} {nc : Nat} (hnJ : 318 ≤ nc) (l : Launch) {a1 : Int32} {I J O : Mem} {r9 : Int32} {Jq : Mem} (hf : fX8_save a1 J = some (r9, Jq)) : zb_Ct l g nc yX8_save cX8_save 2 (some .int) 2 43 [.ref (g.2.2 + 306), .int a1] (zb_ce g I J O) (some (.int r9)) (zb_ce g I Jq O) := by
  refine zb_ofW (own := RX8) (by decide +kernel) rfl (Nat.le_of_ble_eq_true rfl) ?_
  intro p e s m args below meth c ls X hr hP hl
  have hx := X.1.1
  have hb := X.1.2.1
  have ho := X.1.2.2.2.1
  have hts := X.1.2.2.2.2
  have hZ := X.2.2.2
  have hl : lv_has ls 2 [(0, .ref (g.2.2 + 306)), (1, .int a1)] := hl
  have hS : va_S (zb_A g) s.heap s.heap [] := va_S.rf
  obtain ⟨H, hH⟩ : ∃ H, H = s.heap := ⟨_, rfl⟩
  obtain ⟨locs, hlocs⟩ : ∃ z : List Loc, z = [] := ⟨_, rfl⟩
  rw [← hH] at hP
  have hS : va_S (zb_A g) s.heap H locs := by rw [hH, hlocs]; exact hS
  show W p l e _ s m args below meth c s.heap [] 0 0 _ _
  rw [← hH, ← hlocs]
  rw [fX8_save] at hf
  refine lv_aload_n hx hb dX8_save_0 rfl (lv_at hl 0 rfl) ?_
  refine lv_iload_n hx hb dX8_save_1 rfl (lv_at hl 1 rfl) ?_
  obtain ⟨x1, J2, hx1_J2, hf⟩ := ob2_e hf
  refine zr_cVi (rest := []) (As := [.int a1]) X hP hS (ct_X8_noSlot (g := g) (nc := nc) (I := I) (J := J) (O := O) hnJ l  hx1_J2) cw_X8_398 (zr_recv X hP (Nat.lt_of_lt_of_le (zk_306).2.1 hnJ) (zb_ceJo zk_306 (by decide)) rfl) rfl hl.1 (Nat.le_of_ble_eq_true rfl) ⟨Nat.le_of_ble_eq_true rfl, Nat.le_of_ble_eq_true rfl⟩ ⟨Nat.le_of_ble_eq_true rfl, Nat.le_of_ble_eq_true rfl⟩ dX8_save_2 rfl (fun H locs hP hS => ?_)
  refine lv_if_eq (tgt := 10) hx hb dX8_save_5 (by decide) (fun hc => ?_) (fun hc => ?_)
  · have hf := if_t hc hf
    refine lv_aload_n hx hb dX8_save_10 rfl (lv_at hl 0 rfl) ?_
    refine gf_X8_7 X hnJ hP zk_306 dX8_save_11 ?_
    refine lv_iconst (v := (0 : Int32)) hx hb dX8_save_14 (by decide) ?_
    refine lv_aload_n hx hb dX8_save_15 rfl (lv_at hl 0 rfl) ?_
    refine gf_X8_22 X hnJ hP zk_306 dX8_save_16 ?_
    refine lv_sipush (v := (574 : Int32)) hx hb dX8_save_19 (by decide) ?_
    refine lv_iload_n hx hb dX8_save_22 rfl (lv_at hl 1 rfl) ?_
    refine lv_imul hx hb dX8_save_23 ?_
    obtain ⟨J3, hJ3, hf⟩ := ob_e hf
    refine zr_cSv (rest := []) (As := [.ref (g.2.2 + 307), .int (0 : Int32), .ref (g.2.2 + 311), .int ((574 : Int32) * a1)]) X hP hS (ct_X8_copies (g := g) (nc := nc) (I := I) (J := J2) (O := O) hnJ l zk_307 zk_311 hJ3) cw_X8_169  rfl hl.1 (Nat.le_of_ble_eq_true rfl) ⟨Nat.le_of_ble_eq_true rfl, Nat.le_of_ble_eq_true rfl⟩ ⟨Nat.le_of_ble_eq_true rfl, Nat.le_of_ble_eq_true rfl⟩ dX8_save_24 rfl (fun H locs hP hS => ?_)
    refine lv_aload_n hx hb dX8_save_27 rfl (lv_at hl 0 rfl) ?_
    refine gf_X8_25 X hnJ hP zk_306 dX8_save_28 ?_
    refine lv_iload_n hx hb dX8_save_31 rfl (lv_at hl 1 rfl) ?_
    refine lv_iconst (v := (1 : Int32)) hx hb dX8_save_32 (by decide) ?_
    obtain ⟨J4, hJ4, hf⟩ := ob_e hf
    refine zr_zastJ X hP hS hnJ zk_312 hJ4 dX8_save_33 (fun H locs hP hS => ?_)
    refine lv_aload_n hx hb dX8_save_34 rfl (lv_at hl 0 rfl) ?_
    refine gf_X8_7 X hnJ hP zk_306 dX8_save_35 ?_
    refine lv_iconst (v := (5 : Int32)) hx hb dX8_save_38 (by decide) ?_
    obtain ⟨x5, hx5, hf⟩ := ob_e hf
    refine zr_aldJ X hP hnJ zk_307 hx5 dX8_save_39 ?_
    cases hf
    exact zr_iret X hr hP hS dX8_save_40
  · have hf := if_f hc hf
    refine lv_iconst (v := (0 : Int32)) hx hb dX8_save_8 (by decide) ?_
    cases hf
    exact zr_iret X hr hP hS dX8_save_9
set_option maxHeartbeats 4000000 in
set_option maxRecDepth 100000 in
theorem ct_X8_restore {g : zb_G} {nc : Nat} (hnJ : 318 ≤ nc) (l : Launch) {a1 : Int32} {I J O : Mem} {r9 : Int32} {Jq : Mem} (hf : fX8_restore a1 J = some (r9, Jq)) : zb_Ct l g nc yX8_restore cX8_restore 2 (some .int) 2 43 [.ref (g.2.2 + 306), .int a1] (zb_ce g I J O) (some (.int r9)) (zb_ce g I Jq O) := by
  refine zb_ofW (own := RX8) (by decide +kernel) rfl (Nat.le_of_ble_eq_true rfl) ?_
  intro p e s m args below meth c ls X hr hP hl
  have hx := X.1.1
  have hb := X.1.2.1
  have ho := X.1.2.2.2.1
  have hts := X.1.2.2.2.2
  have hZ := X.2.2.2
  have hl : lv_has ls 2 [(0, .ref (g.2.2 + 306)), (1, .int a1)] := hl
  have hS : va_S (zb_A g) s.heap s.heap [] := va_S.rf
  obtain ⟨H, hH⟩ : ∃ H, H = s.heap := ⟨_, rfl⟩
  obtain ⟨locs, hlocs⟩ : ∃ z : List Loc, z = [] := ⟨_, rfl⟩
  rw [← hH] at hP
  have hS : va_S (zb_A g) s.heap H locs := by rw [hH, hlocs]; exact hS
  show W p l e _ s m args below meth c s.heap [] 0 0 _ _
  rw [← hH, ← hlocs]
  rw [fX8_restore] at hf
  refine lv_aload_n hx hb dX8_restore_0 rfl (lv_at hl 0 rfl) ?_
  refine lv_iload_n hx hb dX8_restore_1 rfl (lv_at hl 1 rfl) ?_
  obtain ⟨x1, J2, hx1_J2, hf⟩ := ob2_e hf
  refine zr_cVi (rest := []) (As := [.int a1]) X hP hS (ct_X8_noSlot (g := g) (nc := nc) (I := I) (J := J) (O := O) hnJ l  hx1_J2) cw_X8_398 (zr_recv X hP (Nat.lt_of_lt_of_le (zk_306).2.1 hnJ) (zb_ceJo zk_306 (by decide)) rfl) rfl hl.1 (Nat.le_of_ble_eq_true rfl) ⟨Nat.le_of_ble_eq_true rfl, Nat.le_of_ble_eq_true rfl⟩ ⟨Nat.le_of_ble_eq_true rfl, Nat.le_of_ble_eq_true rfl⟩ dX8_restore_2 rfl (fun H locs hP hS => ?_)
  refine lv_if_ne (tgt := 30) hx hb dX8_restore_5 (by decide) (fun hc => ?_) (fun hc => ?_)
  · have hf := if_f hc hf
    refine lv_iconst (v := (0 : Int32)) hx hb dX8_restore_30 (by decide) ?_
    cases hf
    exact zr_iret X hr hP hS dX8_restore_31
  · have hf := if_t hc hf
    refine lv_aload_n hx hb dX8_restore_8 rfl (lv_at hl 0 rfl) ?_
    refine lv_aload_n hx hb dX8_restore_9 rfl (lv_at hl 0 rfl) ?_
    refine gf_X8_25 X hnJ hP zk_306 dX8_restore_10 ?_
    refine lv_iload_n hx hb dX8_restore_13 rfl (lv_at hl 1 rfl) ?_
    obtain ⟨x3, hx3, hf⟩ := ob_e hf
    refine zr_zaldJ X hP hnJ zk_312 hx3 dX8_restore_14 ?_
    obtain ⟨x4, ht, hf⟩ := pl_e hf
    have K1 : ∀ (H : Heap) (locs : List Loc) (ls : Array Slot), va_P g.1 vwCl (zb_ws g nc (zb_ce g I J2 O)) H → va_S (zb_A g) s.heap H locs → lv_has ls 2 [(0, .ref (g.2.2 + 306)), (1, .int a1)] → W p l e { frames := 2, cells := 0, slots := 0, locals := 43 } s m args below meth c H locs 0 0 (MQ below (zb_Po g nc (zb_ce g I Jq O) (some (.int r9))) args s 0 0 (zb_A g)) (F0 m 23 ls [.int x4, .ref (g.2.2 + 306)]) := by
      intro H locs ls hP hS hl
      refine lv_iconst (v := (2 : Int32)) hx hb dX8_restore_23 (by decide) ?_
      obtain ⟨x5, J6, hx5_J6, hf⟩ := ob2_e hf
      refine zr_cVi (rest := []) (As := [.int x4, .int (2 : Int32)]) X hP hS (ct_X8_throwsIf (g := g) (nc := nc) (I := I) (J := J2) (O := O) hnJ l  hx5_J6) cw_X8_64 (zr_recv X hP (Nat.lt_of_lt_of_le (zk_306).2.1 hnJ) (zb_ceJo zk_306 (by decide)) rfl) rfl hl.1 (Nat.le_of_ble_eq_true rfl) ⟨Nat.le_of_ble_eq_true rfl, Nat.le_of_ble_eq_true rfl⟩ ⟨Nat.le_of_ble_eq_true rfl, Nat.le_of_ble_eq_true rfl⟩ dX8_restore_24 rfl (fun H locs hP hS => ?_)
      refine lv_if_eq (tgt := 32) hx hb dX8_restore_27 (by decide) (fun hc => ?_) (fun hc => ?_)
      · have hf := if_t hc hf
        refine lv_aload_n hx hb dX8_restore_32 rfl (lv_at hl 0 rfl) ?_
        refine gf_X8_22 X hnJ hP zk_306 dX8_restore_33 ?_
        refine lv_sipush (v := (574 : Int32)) hx hb dX8_restore_36 (by decide) ?_
        refine lv_iload_n hx hb dX8_restore_39 rfl (lv_at hl 1 rfl) ?_
        refine lv_imul hx hb dX8_restore_40 ?_
        refine lv_aload_n hx hb dX8_restore_41 rfl (lv_at hl 0 rfl) ?_
        refine gf_X8_7 X hnJ hP zk_306 dX8_restore_42 ?_
        refine lv_iconst (v := (0 : Int32)) hx hb dX8_restore_45 (by decide) ?_
        obtain ⟨J7, hJ7, hf⟩ := ob_e hf
        refine zr_cSv (rest := []) (As := [.ref (g.2.2 + 311), .int ((574 : Int32) * a1), .ref (g.2.2 + 307), .int (0 : Int32)]) X hP hS (ct_X8_copies (g := g) (nc := nc) (I := I) (J := J6) (O := O) hnJ l zk_311 zk_307 hJ7) cw_X8_169  rfl hl.1 (Nat.le_of_ble_eq_true rfl) ⟨Nat.le_of_ble_eq_true rfl, Nat.le_of_ble_eq_true rfl⟩ ⟨Nat.le_of_ble_eq_true rfl, Nat.le_of_ble_eq_true rfl⟩ dX8_restore_46 rfl (fun H locs hP hS => ?_)
        refine lv_aload_n hx hb dX8_restore_49 rfl (lv_at hl 0 rfl) ?_
        refine lv_iconst (v := (0 : Int32)) hx hb dX8_restore_50 (by decide) ?_
        refine pf_X8_173 X hnJ hP hS zk_306 dX8_restore_51 (fun H locs hP hS => ?_)
        refine lv_aload_n hx hb dX8_restore_54 rfl (lv_at hl 0 rfl) ?_
        refine gf_X8_7 X hnJ hP zk_306 dX8_restore_55 ?_
        refine lv_iconst (v := (0 : Int32)) hx hb dX8_restore_58 (by decide) ?_
        obtain ⟨x8, hx8, hf⟩ := ob_e hf
        refine zr_aldJ X hP hnJ zk_307 hx8 dX8_restore_59 ?_
        cases hf
        exact zr_iret X hr hP hS dX8_restore_60
      · have hf := if_f hc hf
        refine lv_iconst (v := (0 : Int32)) hx hb dX8_restore_30 (by decide) ?_
        cases hf
        exact zr_iret X hr hP hS dX8_restore_31
    have hf := ht
    refine lv_if_ne (tgt := 22) hx hb dX8_restore_15 (by decide) (fun hc => ?_) (fun hc => ?_)
    · have hf := if_f hc hf
      refine lv_iconst (v := (0 : Int32)) hx hb dX8_restore_22 (by decide) ?_
      cases hf
      exact K1 H locs ls hP hS (lv_sub hl [0, 1] rfl)
    · have hf := if_t hc hf
      refine lv_iconst (v := (1 : Int32)) hx hb dX8_restore_18 (by decide) ?_
      refine lv_goto (tgt := 23) hx hb dX8_restore_19 (by decide) ?_
      cases hf
      exact K1 H locs ls hP hS (lv_sub hl [0, 1] rfl)
